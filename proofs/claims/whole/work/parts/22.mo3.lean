/-! printed by wip/whole/tools/seg.py: Mo_nextEvent, Mo_inOrder, Mo_findBest, Mo_workAhead, Mo_whoAt, Mo_ahead, Mo_split, Mo_splitOne, Mo_pay, Mo_levelOf, Mo_step, Mo_fraction, Mo_printNumber, Mo_print, Mo_character, Mo_compare, Mo_speedOf, Mo_near, Mo_speed, Mo_working, Mo_check -/
theorem zk_728 : zk 728 = (1, 24, 0) := by decide +kernel
theorem zk_729 : zk 729 = (1, 24, 0) := by decide +kernel
theorem zk_730 : zk 730 = (1, 200, 0) := by decide +kernel
theorem zk_731 : zk 731 = (1, 12, 0) := by decide +kernel
theorem zk_732 : zk 732 = (1, 12, 0) := by decide +kernel
theorem zk_733 : zk 733 = (1, 2000, 0) := by decide +kernel
theorem kb_60 : (Int8.ofInt 60).toInt32 = Int32.ofInt 60 ∧ R32 60 := ⟨by decide +kernel, by decide⟩
theorem kb_84 : (Int8.ofInt 84).toInt32 = Int32.ofInt 84 ∧ R32 84 := ⟨by decide +kernel, by decide⟩
theorem kb_96 : (Int8.ofInt 96).toInt32 = Int32.ofInt 96 ∧ R32 96 := ⟨by decide +kernel, by decide⟩
theorem kb_109 : (Int8.ofInt 109).toInt32 = Int32.ofInt 109 ∧ R32 109 := ⟨by decide +kernel, by decide⟩
theorem kb_110 : (Int8.ofInt 110).toInt32 = Int32.ofInt 110 ∧ R32 110 := ⟨by decide +kernel, by decide⟩
theorem ks_199 : (Int16.ofInt 199).toInt32 = Int32.ofInt 199 ∧ R32 199 := ⟨by decide +kernel, by decide⟩
theorem ks_201 : (Int16.ofInt 201).toInt32 = Int32.ofInt 201 ∧ R32 201 := ⟨by decide +kernel, by decide⟩
theorem ks_230 : (Int16.ofInt 230).toInt32 = Int32.ofInt 230 ∧ R32 230 := ⟨by decide +kernel, by decide⟩
theorem ks_242 : (Int16.ofInt 242).toInt32 = Int32.ofInt 242 ∧ R32 242 := ⟨by decide +kernel, by decide⟩
theorem ks_243 : (Int16.ofInt 243).toInt32 = Int32.ofInt 243 ∧ R32 243 := ⟨by decide +kernel, by decide⟩
theorem ks_246 : (Int16.ofInt 246).toInt32 = Int32.ofInt 246 ∧ R32 246 := ⟨by decide +kernel, by decide⟩
theorem ks_247 : (Int16.ofInt 247).toInt32 = Int32.ofInt 247 ∧ R32 247 := ⟨by decide +kernel, by decide⟩
theorem fi_Mo_aheadSteps : 26 < 34 ∧ (zft 11 26).1 ≠ 2 ∧ ((26 : Nat) : Int) = 26 := ⟨by decide, by decide +kernel, rfl⟩
theorem fi_Mo_gone : 11 < 34 ∧ (zft 11 11).1 ≠ 2 ∧ ((11 : Nat) : Int) = 11 := ⟨by decide, by decide +kernel, rfl⟩
theorem fi_Mo_isSplit : 12 < 34 ∧ (zft 11 12).1 ≠ 2 ∧ ((12 : Nat) : Int) = 12 := ⟨by decide, by decide +kernel, rfl⟩
theorem fi_Mo_planned : 10 < 34 ∧ (zft 11 10).1 ≠ 2 ∧ ((10 : Nat) : Int) = 10 := ⟨by decide, by decide +kernel, rfl⟩
theorem fi_Mo_printedMany : 33 < 34 ∧ (zft 11 33).1 ≠ 2 ∧ ((33 : Nat) : Int) = 33 := ⟨by decide, by decide +kernel, rfl⟩
theorem fr_Mo_aheadBegins : 27 < 34 ∧ zft 11 27 = (2, 20) := ⟨by decide, by decide +kernel⟩
theorem fr_Mo_aheadEnds : 28 < 34 ∧ zft 11 28 = (2, 21) := ⟨by decide, by decide +kernel⟩
theorem fr_Mo_aheadWorks : 29 < 34 ∧ zft 11 29 = (2, 22) := ⟨by decide, by decide +kernel⟩
theorem fr_Mo_greater : 31 < 34 ∧ zft 11 31 = (2, 24) := ⟨by decide, by decide +kernel⟩
theorem fr_Mo_lesser : 30 < 34 ∧ zft 11 30 = (2, 23) := ⟨by decide, by decide +kernel⟩
theorem fr_Mo_printed : 32 < 34 ∧ zft 11 32 = (2, 25) := ⟨by decide, by decide +kernel⟩
theorem fp_Mo_aheadSteps : 26 < 34 ∧ (zft 11 26).1 ≠ 2 ∧ ((26 : Nat) : Int) = 26 ∧ (F_Mo 26).2.2.2 = false := ⟨by decide, by decide +kernel, rfl, rfl⟩
theorem fp_Mo_printedMany : 33 < 34 ∧ (zft 11 33).1 ≠ 2 ∧ ((33 : Nat) : Int) = 33 ∧ (F_Mo 33).2.2.2 = false := ⟨by decide, by decide +kernel, rfl, rfl⟩
theorem d_Mo_nextEvent_0 : decode prog_13_method_37_code 0 = .ok (.sipush 201, 3) := by decide +kernel
theorem d_Mo_nextEvent_3 : decode prog_13_method_37_code 3 = .ok (.istore_n 2, 1) := by decide +kernel
theorem d_Mo_nextEvent_4 : decode prog_13_method_37_code 4 = .ok (.iconst 0, 1) := by decide +kernel
theorem d_Mo_nextEvent_5 : decode prog_13_method_37_code 5 = .ok (.istore_n 3, 1) := by decide +kernel
theorem d_Mo_nextEvent_6 : decode prog_13_method_37_code 6 = .ok (.iload_n 3, 1) := by decide +kernel
theorem d_Mo_nextEvent_7 : decode prog_13_method_37_code 7 = .ok (.aload_n 0, 1) := by decide +kernel
theorem d_Mo_nextEvent_8 : decode prog_13_method_37_code 8 = .ok (.getfield 153, 3) := by decide +kernel
theorem d_Mo_nextEvent_11 : decode prog_13_method_37_code 11 = .ok (.if_icmp .ge 71, 3) := by decide +kernel
theorem d_Mo_nextEvent_14 : decode prog_13_method_37_code 14 = .ok (.aload_n 0, 1) := by decide +kernel
theorem d_Mo_nextEvent_15 : decode prog_13_method_37_code 15 = .ok (.getfield 16, 3) := by decide +kernel
theorem d_Mo_nextEvent_18 : decode prog_13_method_37_code 18 = .ok (.iload_n 3, 1) := by decide +kernel
theorem d_Mo_nextEvent_19 : decode prog_13_method_37_code 19 = .ok (.iaload, 1) := by decide +kernel
theorem d_Mo_nextEvent_20 : decode prog_13_method_37_code 20 = .ok (.iload_n 1, 1) := by decide +kernel
theorem d_Mo_nextEvent_21 : decode prog_13_method_37_code 21 = .ok (.if_icmp .le 22, 3) := by decide +kernel
theorem d_Mo_nextEvent_24 : decode prog_13_method_37_code 24 = .ok (.aload_n 0, 1) := by decide +kernel
theorem d_Mo_nextEvent_25 : decode prog_13_method_37_code 25 = .ok (.getfield 16, 3) := by decide +kernel
theorem d_Mo_nextEvent_28 : decode prog_13_method_37_code 28 = .ok (.iload_n 3, 1) := by decide +kernel
theorem d_Mo_nextEvent_29 : decode prog_13_method_37_code 29 = .ok (.iaload, 1) := by decide +kernel
theorem d_Mo_nextEvent_30 : decode prog_13_method_37_code 30 = .ok (.iload_n 2, 1) := by decide +kernel
theorem d_Mo_nextEvent_31 : decode prog_13_method_37_code 31 = .ok (.if_icmp .ge 12, 3) := by decide +kernel
theorem d_Mo_nextEvent_34 : decode prog_13_method_37_code 34 = .ok (.aload_n 0, 1) := by decide +kernel
theorem d_Mo_nextEvent_35 : decode prog_13_method_37_code 35 = .ok (.getfield 16, 3) := by decide +kernel
theorem d_Mo_nextEvent_38 : decode prog_13_method_37_code 38 = .ok (.iload_n 3, 1) := by decide +kernel
theorem d_Mo_nextEvent_39 : decode prog_13_method_37_code 39 = .ok (.iaload, 1) := by decide +kernel
theorem d_Mo_nextEvent_40 : decode prog_13_method_37_code 40 = .ok (.goto 4, 3) := by decide +kernel
theorem d_Mo_nextEvent_43 : decode prog_13_method_37_code 43 = .ok (.iload_n 2, 1) := by decide +kernel
theorem d_Mo_nextEvent_44 : decode prog_13_method_37_code 44 = .ok (.istore_n 2, 1) := by decide +kernel
theorem d_Mo_nextEvent_45 : decode prog_13_method_37_code 45 = .ok (.aload_n 0, 1) := by decide +kernel
theorem d_Mo_nextEvent_46 : decode prog_13_method_37_code 46 = .ok (.getfield 19, 3) := by decide +kernel
theorem d_Mo_nextEvent_49 : decode prog_13_method_37_code 49 = .ok (.iload_n 3, 1) := by decide +kernel
theorem d_Mo_nextEvent_50 : decode prog_13_method_37_code 50 = .ok (.iaload, 1) := by decide +kernel
theorem d_Mo_nextEvent_51 : decode prog_13_method_37_code 51 = .ok (.iload_n 1, 1) := by decide +kernel
theorem d_Mo_nextEvent_52 : decode prog_13_method_37_code 52 = .ok (.if_icmp .le 22, 3) := by decide +kernel
theorem d_Mo_nextEvent_55 : decode prog_13_method_37_code 55 = .ok (.aload_n 0, 1) := by decide +kernel
theorem d_Mo_nextEvent_56 : decode prog_13_method_37_code 56 = .ok (.getfield 19, 3) := by decide +kernel
theorem d_Mo_nextEvent_59 : decode prog_13_method_37_code 59 = .ok (.iload_n 3, 1) := by decide +kernel
theorem d_Mo_nextEvent_60 : decode prog_13_method_37_code 60 = .ok (.iaload, 1) := by decide +kernel
theorem d_Mo_nextEvent_61 : decode prog_13_method_37_code 61 = .ok (.iload_n 2, 1) := by decide +kernel
theorem d_Mo_nextEvent_62 : decode prog_13_method_37_code 62 = .ok (.if_icmp .ge 12, 3) := by decide +kernel
theorem d_Mo_nextEvent_65 : decode prog_13_method_37_code 65 = .ok (.aload_n 0, 1) := by decide +kernel
theorem d_Mo_nextEvent_66 : decode prog_13_method_37_code 66 = .ok (.getfield 19, 3) := by decide +kernel
theorem d_Mo_nextEvent_69 : decode prog_13_method_37_code 69 = .ok (.iload_n 3, 1) := by decide +kernel
theorem d_Mo_nextEvent_70 : decode prog_13_method_37_code 70 = .ok (.iaload, 1) := by decide +kernel
theorem d_Mo_nextEvent_71 : decode prog_13_method_37_code 71 = .ok (.goto 4, 3) := by decide +kernel
theorem d_Mo_nextEvent_74 : decode prog_13_method_37_code 74 = .ok (.iload_n 2, 1) := by decide +kernel
theorem d_Mo_nextEvent_75 : decode prog_13_method_37_code 75 = .ok (.istore_n 2, 1) := by decide +kernel
theorem d_Mo_nextEvent_76 : decode prog_13_method_37_code 76 = .ok (.iinc 3 1, 3) := by decide +kernel
theorem d_Mo_nextEvent_79 : decode prog_13_method_37_code 79 = .ok (.goto (-73), 3) := by decide +kernel
theorem d_Mo_nextEvent_82 : decode prog_13_method_37_code 82 = .ok (.iload_n 2, 1) := by decide +kernel
theorem d_Mo_nextEvent_83 : decode prog_13_method_37_code 83 = .ok (.ireturn, 1) := by decide +kernel
theorem d_Mo_inOrder_0 : decode prog_13_method_38_code 0 = .ok (.iload_n 2, 1) := by decide +kernel
theorem d_Mo_inOrder_1 : decode prog_13_method_38_code 1 = .ok (.istore_n 3, 1) := by decide +kernel
theorem d_Mo_inOrder_2 : decode prog_13_method_38_code 2 = .ok (.iload_n 1, 1) := by decide +kernel
theorem d_Mo_inOrder_3 : decode prog_13_method_38_code 3 = .ok (.iconst 1, 1) := by decide +kernel
theorem d_Mo_inOrder_4 : decode prog_13_method_38_code 4 = .ok (.iadd, 1) := by decide +kernel
theorem d_Mo_inOrder_5 : decode prog_13_method_38_code 5 = .ok (.istore 4, 2) := by decide +kernel
theorem d_Mo_inOrder_7 : decode prog_13_method_38_code 7 = .ok (.iload 4, 2) := by decide +kernel
theorem d_Mo_inOrder_9 : decode prog_13_method_38_code 9 = .ok (.sipush 200, 3) := by decide +kernel
theorem d_Mo_inOrder_12 : decode prog_13_method_38_code 12 = .ok (.if_icmp .gt 74, 3) := by decide +kernel
theorem d_Mo_inOrder_15 : decode prog_13_method_38_code 15 = .ok (.iconst 0, 1) := by decide +kernel
theorem d_Mo_inOrder_16 : decode prog_13_method_38_code 16 = .ok (.istore 5, 2) := by decide +kernel
theorem d_Mo_inOrder_18 : decode prog_13_method_38_code 18 = .ok (.iload 5, 2) := by decide +kernel
theorem d_Mo_inOrder_20 : decode prog_13_method_38_code 20 = .ok (.aload_n 0, 1) := by decide +kernel
theorem d_Mo_inOrder_21 : decode prog_13_method_38_code 21 = .ok (.getfield 153, 3) := by decide +kernel
theorem d_Mo_inOrder_24 : decode prog_13_method_38_code 24 = .ok (.if_icmp .ge 56, 3) := by decide +kernel
theorem d_Mo_inOrder_27 : decode prog_13_method_38_code 27 = .ok (.aload_n 0, 1) := by decide +kernel
theorem d_Mo_inOrder_28 : decode prog_13_method_38_code 28 = .ok (.getfield 19, 3) := by decide +kernel
theorem d_Mo_inOrder_31 : decode prog_13_method_38_code 31 = .ok (.iload 5, 2) := by decide +kernel
theorem d_Mo_inOrder_33 : decode prog_13_method_38_code 33 = .ok (.iaload, 1) := by decide +kernel
theorem d_Mo_inOrder_34 : decode prog_13_method_38_code 34 = .ok (.iload 4, 2) := by decide +kernel
theorem d_Mo_inOrder_36 : decode prog_13_method_38_code 36 = .ok (.if_icmp .ne 38, 3) := by decide +kernel
theorem d_Mo_inOrder_39 : decode prog_13_method_38_code 39 = .ok (.aload_n 0, 1) := by decide +kernel
theorem d_Mo_inOrder_40 : decode prog_13_method_38_code 40 = .ok (.getfield 16, 3) := by decide +kernel
theorem d_Mo_inOrder_43 : decode prog_13_method_38_code 43 = .ok (.iload 5, 2) := by decide +kernel
theorem d_Mo_inOrder_45 : decode prog_13_method_38_code 45 = .ok (.iaload, 1) := by decide +kernel
theorem d_Mo_inOrder_46 : decode prog_13_method_38_code 46 = .ok (.iload_n 1, 1) := by decide +kernel
theorem d_Mo_inOrder_47 : decode prog_13_method_38_code 47 = .ok (.if_icmp .gt 27, 3) := by decide +kernel
theorem d_Mo_inOrder_50 : decode prog_13_method_38_code 50 = .ok (.aload_n 0, 1) := by decide +kernel
theorem d_Mo_inOrder_51 : decode prog_13_method_38_code 51 = .ok (.getfield 13, 3) := by decide +kernel
theorem d_Mo_inOrder_54 : decode prog_13_method_38_code 54 = .ok (.sipush 230, 3) := by decide +kernel
theorem d_Mo_inOrder_57 : decode prog_13_method_38_code 57 = .ok (.iload 5, 2) := by decide +kernel
theorem d_Mo_inOrder_59 : decode prog_13_method_38_code 59 = .ok (.iadd, 1) := by decide +kernel
theorem d_Mo_inOrder_60 : decode prog_13_method_38_code 60 = .ok (.iaload, 1) := by decide +kernel
theorem d_Mo_inOrder_61 : decode prog_13_method_38_code 61 = .ok (.ifCond .le 13, 3) := by decide +kernel
theorem d_Mo_inOrder_64 : decode prog_13_method_38_code 64 = .ok (.iload_n 3, 1) := by decide +kernel
theorem d_Mo_inOrder_65 : decode prog_13_method_38_code 65 = .ok (.ifCond .ne 6, 3) := by decide +kernel
theorem d_Mo_inOrder_68 : decode prog_13_method_38_code 68 = .ok (.iload 5, 2) := by decide +kernel
theorem d_Mo_inOrder_70 : decode prog_13_method_38_code 70 = .ok (.ireturn, 1) := by decide +kernel
theorem d_Mo_inOrder_71 : decode prog_13_method_38_code 71 = .ok (.iinc 3 (-1), 3) := by decide +kernel
theorem d_Mo_inOrder_74 : decode prog_13_method_38_code 74 = .ok (.iinc 5 1, 3) := by decide +kernel
theorem d_Mo_inOrder_77 : decode prog_13_method_38_code 77 = .ok (.goto (-59), 3) := by decide +kernel
theorem d_Mo_inOrder_80 : decode prog_13_method_38_code 80 = .ok (.iinc 4 1, 3) := by decide +kernel
theorem d_Mo_inOrder_83 : decode prog_13_method_38_code 83 = .ok (.goto (-76), 3) := by decide +kernel
theorem d_Mo_inOrder_86 : decode prog_13_method_38_code 86 = .ok (.iconst (-1), 1) := by decide +kernel
theorem d_Mo_inOrder_87 : decode prog_13_method_38_code 87 = .ok (.ireturn, 1) := by decide +kernel
theorem d_Mo_findBest_0 : decode prog_13_method_39_code 0 = .ok (.iconst 0, 1) := by decide +kernel
theorem d_Mo_findBest_1 : decode prog_13_method_39_code 1 = .ok (.istore_n 2, 1) := by decide +kernel
theorem d_Mo_findBest_2 : decode prog_13_method_39_code 2 = .ok (.aload_n 0, 1) := by decide +kernel
theorem d_Mo_findBest_3 : decode prog_13_method_39_code 3 = .ok (.getfield 13, 3) := by decide +kernel
theorem d_Mo_findBest_6 : decode prog_13_method_39_code 6 = .ok (.sipush 243, 3) := by decide +kernel
theorem d_Mo_findBest_9 : decode prog_13_method_39_code 9 = .ok (.iconst 0, 1) := by decide +kernel
theorem d_Mo_findBest_10 : decode prog_13_method_39_code 10 = .ok (.iastore, 1) := by decide +kernel
theorem d_Mo_findBest_11 : decode prog_13_method_39_code 11 = .ok (.iload_n 1, 1) := by decide +kernel
theorem d_Mo_findBest_12 : decode prog_13_method_39_code 12 = .ok (.iconst 1, 1) := by decide +kernel
theorem d_Mo_findBest_13 : decode prog_13_method_39_code 13 = .ok (.iadd, 1) := by decide +kernel
theorem d_Mo_findBest_14 : decode prog_13_method_39_code 14 = .ok (.istore_n 3, 1) := by decide +kernel
theorem d_Mo_findBest_15 : decode prog_13_method_39_code 15 = .ok (.iload_n 3, 1) := by decide +kernel
theorem d_Mo_findBest_16 : decode prog_13_method_39_code 16 = .ok (.sipush 200, 3) := by decide +kernel
theorem d_Mo_findBest_19 : decode prog_13_method_39_code 19 = .ok (.if_icmp .gt 196, 3) := by decide +kernel
theorem d_Mo_findBest_22 : decode prog_13_method_39_code 22 = .ok (.aload_n 0, 1) := by decide +kernel
theorem d_Mo_findBest_23 : decode prog_13_method_39_code 23 = .ok (.getfield 13, 3) := by decide +kernel
theorem d_Mo_findBest_26 : decode prog_13_method_39_code 26 = .ok (.sipush 246, 3) := by decide +kernel
theorem d_Mo_findBest_29 : decode prog_13_method_39_code 29 = .ok (.iconst 0, 1) := by decide +kernel
theorem d_Mo_findBest_30 : decode prog_13_method_39_code 30 = .ok (.iastore, 1) := by decide +kernel
theorem d_Mo_findBest_31 : decode prog_13_method_39_code 31 = .ok (.iconst 0, 1) := by decide +kernel
theorem d_Mo_findBest_32 : decode prog_13_method_39_code 32 = .ok (.istore 4, 2) := by decide +kernel
theorem d_Mo_findBest_34 : decode prog_13_method_39_code 34 = .ok (.iconst 0, 1) := by decide +kernel
theorem d_Mo_findBest_35 : decode prog_13_method_39_code 35 = .ok (.istore 5, 2) := by decide +kernel
theorem d_Mo_findBest_37 : decode prog_13_method_39_code 37 = .ok (.iload 5, 2) := by decide +kernel
theorem d_Mo_findBest_39 : decode prog_13_method_39_code 39 = .ok (.aload_n 0, 1) := by decide +kernel
theorem d_Mo_findBest_40 : decode prog_13_method_39_code 40 = .ok (.getfield 153, 3) := by decide +kernel
theorem d_Mo_findBest_43 : decode prog_13_method_39_code 43 = .ok (.if_icmp .ge 81, 3) := by decide +kernel
theorem d_Mo_findBest_46 : decode prog_13_method_39_code 46 = .ok (.iload 4, 2) := by decide +kernel
theorem d_Mo_findBest_48 : decode prog_13_method_39_code 48 = .ok (.ifCond .ne 25, 3) := by decide +kernel
theorem d_Mo_findBest_51 : decode prog_13_method_39_code 51 = .ok (.aload_n 0, 1) := by decide +kernel
theorem d_Mo_findBest_52 : decode prog_13_method_39_code 52 = .ok (.getfield 19, 3) := by decide +kernel
theorem d_Mo_findBest_55 : decode prog_13_method_39_code 55 = .ok (.iload 5, 2) := by decide +kernel
theorem d_Mo_findBest_57 : decode prog_13_method_39_code 57 = .ok (.iaload, 1) := by decide +kernel
theorem d_Mo_findBest_58 : decode prog_13_method_39_code 58 = .ok (.iload_n 3, 1) := by decide +kernel
theorem d_Mo_findBest_59 : decode prog_13_method_39_code 59 = .ok (.if_icmp .ne 18, 3) := by decide +kernel
theorem d_Mo_findBest_62 : decode prog_13_method_39_code 62 = .ok (.aload_n 0, 1) := by decide +kernel
theorem d_Mo_findBest_63 : decode prog_13_method_39_code 63 = .ok (.getfield 16, 3) := by decide +kernel
theorem d_Mo_findBest_66 : decode prog_13_method_39_code 66 = .ok (.iload 5, 2) := by decide +kernel
theorem d_Mo_findBest_68 : decode prog_13_method_39_code 68 = .ok (.iaload, 1) := by decide +kernel
theorem d_Mo_findBest_69 : decode prog_13_method_39_code 69 = .ok (.iload_n 1, 1) := by decide +kernel
theorem d_Mo_findBest_70 : decode prog_13_method_39_code 70 = .ok (.if_icmp .gt 7, 3) := by decide +kernel
theorem d_Mo_findBest_73 : decode prog_13_method_39_code 73 = .ok (.iconst 1, 1) := by decide +kernel
theorem d_Mo_findBest_74 : decode prog_13_method_39_code 74 = .ok (.goto 4, 3) := by decide +kernel
theorem d_Mo_findBest_77 : decode prog_13_method_39_code 77 = .ok (.iconst 0, 1) := by decide +kernel
theorem d_Mo_findBest_78 : decode prog_13_method_39_code 78 = .ok (.istore 4, 2) := by decide +kernel
theorem d_Mo_findBest_80 : decode prog_13_method_39_code 80 = .ok (.aload_n 0, 1) := by decide +kernel
theorem d_Mo_findBest_81 : decode prog_13_method_39_code 81 = .ok (.getfield 19, 3) := by decide +kernel
theorem d_Mo_findBest_84 : decode prog_13_method_39_code 84 = .ok (.iload 5, 2) := by decide +kernel
theorem d_Mo_findBest_86 : decode prog_13_method_39_code 86 = .ok (.iaload, 1) := by decide +kernel
theorem d_Mo_findBest_87 : decode prog_13_method_39_code 87 = .ok (.iload_n 3, 1) := by decide +kernel
theorem d_Mo_findBest_88 : decode prog_13_method_39_code 88 = .ok (.if_icmp .gt 30, 3) := by decide +kernel
theorem d_Mo_findBest_91 : decode prog_13_method_39_code 91 = .ok (.aload_n 0, 1) := by decide +kernel
theorem d_Mo_findBest_92 : decode prog_13_method_39_code 92 = .ok (.getfield 16, 3) := by decide +kernel
theorem d_Mo_findBest_95 : decode prog_13_method_39_code 95 = .ok (.iload 5, 2) := by decide +kernel
theorem d_Mo_findBest_97 : decode prog_13_method_39_code 97 = .ok (.iaload, 1) := by decide +kernel
theorem d_Mo_findBest_98 : decode prog_13_method_39_code 98 = .ok (.iload_n 1, 1) := by decide +kernel
theorem d_Mo_findBest_99 : decode prog_13_method_39_code 99 = .ok (.if_icmp .gt 19, 3) := by decide +kernel
theorem d_Mo_findBest_102 : decode prog_13_method_39_code 102 = .ok (.aload_n 0, 1) := by decide +kernel
theorem d_Mo_findBest_103 : decode prog_13_method_39_code 103 = .ok (.sipush 246, 3) := by decide +kernel
theorem d_Mo_findBest_106 : decode prog_13_method_39_code 106 = .ok (.sipush 230, 3) := by decide +kernel
theorem d_Mo_findBest_109 : decode prog_13_method_39_code 109 = .ok (.iload 5, 2) := by decide +kernel
theorem d_Mo_findBest_111 : decode prog_13_method_39_code 111 = .ok (.iadd, 1) := by decide +kernel
theorem d_Mo_findBest_112 : decode prog_13_method_39_code 112 = .ok (.sipush 246, 3) := by decide +kernel
theorem d_Mo_findBest_115 : decode prog_13_method_39_code 115 = .ok (.invokevirtual 143, 3) := by decide +kernel
theorem d_Mo_findBest_118 : decode prog_13_method_39_code 118 = .ok (.iinc 5 1, 3) := by decide +kernel
theorem d_Mo_findBest_121 : decode prog_13_method_39_code 121 = .ok (.goto (-84), 3) := by decide +kernel
theorem d_Mo_findBest_124 : decode prog_13_method_39_code 124 = .ok (.iload 4, 2) := by decide +kernel
theorem d_Mo_findBest_126 : decode prog_13_method_39_code 126 = .ok (.ifCond .eq 83, 3) := by decide +kernel
theorem d_Mo_findBest_129 : decode prog_13_method_39_code 129 = .ok (.aload_n 0, 1) := by decide +kernel
theorem d_Mo_findBest_130 : decode prog_13_method_39_code 130 = .ok (.getfield 13, 3) := by decide +kernel
theorem d_Mo_findBest_133 : decode prog_13_method_39_code 133 = .ok (.sipush 246, 3) := by decide +kernel
theorem d_Mo_findBest_136 : decode prog_13_method_39_code 136 = .ok (.iaload, 1) := by decide +kernel
theorem d_Mo_findBest_137 : decode prog_13_method_39_code 137 = .ok (.ifCond .le 72, 3) := by decide +kernel
theorem d_Mo_findBest_140 : decode prog_13_method_39_code 140 = .ok (.aload_n 0, 1) := by decide +kernel
theorem d_Mo_findBest_141 : decode prog_13_method_39_code 141 = .ok (.sipush 246, 3) := by decide +kernel
theorem d_Mo_findBest_144 : decode prog_13_method_39_code 144 = .ok (.sipush 244, 3) := by decide +kernel
theorem d_Mo_findBest_147 : decode prog_13_method_39_code 147 = .ok (.invokevirtual 106, 3) := by decide +kernel
theorem d_Mo_findBest_150 : decode prog_13_method_39_code 150 = .ok (.aload_n 0, 1) := by decide +kernel
theorem d_Mo_findBest_151 : decode prog_13_method_39_code 151 = .ok (.sipush 244, 3) := by decide +kernel
theorem d_Mo_findBest_154 : decode prog_13_method_39_code 154 = .ok (.iload_n 2, 1) := by decide +kernel
theorem d_Mo_findBest_155 : decode prog_13_method_39_code 155 = .ok (.invokevirtual 124, 3) := by decide +kernel
theorem d_Mo_findBest_158 : decode prog_13_method_39_code 158 = .ok (.aload_n 0, 1) := by decide +kernel
theorem d_Mo_findBest_159 : decode prog_13_method_39_code 159 = .ok (.sipush 243, 3) := by decide +kernel
theorem d_Mo_findBest_162 : decode prog_13_method_39_code 162 = .ok (.sipush 245, 3) := by decide +kernel
theorem d_Mo_findBest_165 : decode prog_13_method_39_code 165 = .ok (.invokevirtual 106, 3) := by decide +kernel
theorem d_Mo_findBest_168 : decode prog_13_method_39_code 168 = .ok (.aload_n 0, 1) := by decide +kernel
theorem d_Mo_findBest_169 : decode prog_13_method_39_code 169 = .ok (.sipush 245, 3) := by decide +kernel
theorem d_Mo_findBest_172 : decode prog_13_method_39_code 172 = .ok (.iload_n 3, 1) := by decide +kernel
theorem d_Mo_findBest_173 : decode prog_13_method_39_code 173 = .ok (.iload_n 1, 1) := by decide +kernel
theorem d_Mo_findBest_174 : decode prog_13_method_39_code 174 = .ok (.isub, 1) := by decide +kernel
theorem d_Mo_findBest_175 : decode prog_13_method_39_code 175 = .ok (.invokevirtual 124, 3) := by decide +kernel
theorem d_Mo_findBest_178 : decode prog_13_method_39_code 178 = .ok (.iload_n 2, 1) := by decide +kernel
theorem d_Mo_findBest_179 : decode prog_13_method_39_code 179 = .ok (.ifCond .eq 16, 3) := by decide +kernel
theorem d_Mo_findBest_182 : decode prog_13_method_39_code 182 = .ok (.aload_n 0, 1) := by decide +kernel
theorem d_Mo_findBest_183 : decode prog_13_method_39_code 183 = .ok (.sipush 244, 3) := by decide +kernel
theorem d_Mo_findBest_186 : decode prog_13_method_39_code 186 = .ok (.sipush 245, 3) := by decide +kernel
theorem d_Mo_findBest_189 : decode prog_13_method_39_code 189 = .ok (.invokevirtual 117, 3) := by decide +kernel
theorem d_Mo_findBest_192 : decode prog_13_method_39_code 192 = .ok (.ifCond .le 17, 3) := by decide +kernel
theorem d_Mo_findBest_195 : decode prog_13_method_39_code 195 = .ok (.aload_n 0, 1) := by decide +kernel
theorem d_Mo_findBest_196 : decode prog_13_method_39_code 196 = .ok (.sipush 246, 3) := by decide +kernel
theorem d_Mo_findBest_199 : decode prog_13_method_39_code 199 = .ok (.sipush 243, 3) := by decide +kernel
theorem d_Mo_findBest_202 : decode prog_13_method_39_code 202 = .ok (.invokevirtual 106, 3) := by decide +kernel
theorem d_Mo_findBest_205 : decode prog_13_method_39_code 205 = .ok (.iload_n 3, 1) := by decide +kernel
theorem d_Mo_findBest_206 : decode prog_13_method_39_code 206 = .ok (.iload_n 1, 1) := by decide +kernel
theorem d_Mo_findBest_207 : decode prog_13_method_39_code 207 = .ok (.isub, 1) := by decide +kernel
theorem d_Mo_findBest_208 : decode prog_13_method_39_code 208 = .ok (.istore_n 2, 1) := by decide +kernel
theorem d_Mo_findBest_209 : decode prog_13_method_39_code 209 = .ok (.iinc 3 1, 3) := by decide +kernel
theorem d_Mo_findBest_212 : decode prog_13_method_39_code 212 = .ok (.goto (-197), 3) := by decide +kernel
theorem d_Mo_findBest_215 : decode prog_13_method_39_code 215 = .ok (.iload_n 2, 1) := by decide +kernel
theorem d_Mo_findBest_216 : decode prog_13_method_39_code 216 = .ok (.ireturn, 1) := by decide +kernel
theorem d_Mo_workAhead_0 : decode prog_13_method_40_code 0 = .ok (.iconst 0, 1) := by decide +kernel
theorem d_Mo_workAhead_1 : decode prog_13_method_40_code 1 = .ok (.istore 4, 2) := by decide +kernel
theorem d_Mo_workAhead_3 : decode prog_13_method_40_code 3 = .ok (.iload 4, 2) := by decide +kernel
theorem d_Mo_workAhead_5 : decode prog_13_method_40_code 5 = .ok (.aload_n 0, 1) := by decide +kernel
theorem d_Mo_workAhead_6 : decode prog_13_method_40_code 6 = .ok (.getfield 153, 3) := by decide +kernel
theorem d_Mo_workAhead_9 : decode prog_13_method_40_code 9 = .ok (.if_icmp .ge 20, 3) := by decide +kernel
theorem d_Mo_workAhead_12 : decode prog_13_method_40_code 12 = .ok (.aload_n 0, 1) := by decide +kernel
theorem d_Mo_workAhead_13 : decode prog_13_method_40_code 13 = .ok (.sipush 230, 3) := by decide +kernel
theorem d_Mo_workAhead_16 : decode prog_13_method_40_code 16 = .ok (.iload 4, 2) := by decide +kernel
theorem d_Mo_workAhead_18 : decode prog_13_method_40_code 18 = .ok (.iadd, 1) := by decide +kernel
theorem d_Mo_workAhead_19 : decode prog_13_method_40_code 19 = .ok (.iload_n 3, 1) := by decide +kernel
theorem d_Mo_workAhead_20 : decode prog_13_method_40_code 20 = .ok (.invokevirtual 124, 3) := by decide +kernel
theorem d_Mo_workAhead_23 : decode prog_13_method_40_code 23 = .ok (.iinc 4 1, 3) := by decide +kernel
theorem d_Mo_workAhead_26 : decode prog_13_method_40_code 26 = .ok (.goto (-23), 3) := by decide +kernel
theorem d_Mo_workAhead_29 : decode prog_13_method_40_code 29 = .ok (.aload_n 0, 1) := by decide +kernel
theorem d_Mo_workAhead_30 : decode prog_13_method_40_code 30 = .ok (.sipush 242, 3) := by decide +kernel
theorem d_Mo_workAhead_33 : decode prog_13_method_40_code 33 = .ok (.iload_n 3, 1) := by decide +kernel
theorem d_Mo_workAhead_34 : decode prog_13_method_40_code 34 = .ok (.invokevirtual 124, 3) := by decide +kernel
theorem d_Mo_workAhead_37 : decode prog_13_method_40_code 37 = .ok (.iconst 0, 1) := by decide +kernel
theorem d_Mo_workAhead_38 : decode prog_13_method_40_code 38 = .ok (.istore 4, 2) := by decide +kernel
theorem d_Mo_workAhead_40 : decode prog_13_method_40_code 40 = .ok (.iload 4, 2) := by decide +kernel
theorem d_Mo_workAhead_42 : decode prog_13_method_40_code 42 = .ok (.iload_n 2, 1) := by decide +kernel
theorem d_Mo_workAhead_43 : decode prog_13_method_40_code 43 = .ok (.iload_n 1, 1) := by decide +kernel
theorem d_Mo_workAhead_44 : decode prog_13_method_40_code 44 = .ok (.isub, 1) := by decide +kernel
theorem d_Mo_workAhead_45 : decode prog_13_method_40_code 45 = .ok (.if_icmp .ge 25, 3) := by decide +kernel
theorem d_Mo_workAhead_48 : decode prog_13_method_40_code 48 = .ok (.aload_n 0, 1) := by decide +kernel
theorem d_Mo_workAhead_49 : decode prog_13_method_40_code 49 = .ok (.getfield 75, 3) := by decide +kernel
theorem d_Mo_workAhead_52 : decode prog_13_method_40_code 52 = .ok (.iload_n 1, 1) := by decide +kernel
theorem d_Mo_workAhead_53 : decode prog_13_method_40_code 53 = .ok (.iload 4, 2) := by decide +kernel
theorem d_Mo_workAhead_55 : decode prog_13_method_40_code 55 = .ok (.iadd, 1) := by decide +kernel
theorem d_Mo_workAhead_56 : decode prog_13_method_40_code 56 = .ok (.aload_n 0, 1) := by decide +kernel
theorem d_Mo_workAhead_57 : decode prog_13_method_40_code 57 = .ok (.iload_n 1, 1) := by decide +kernel
theorem d_Mo_workAhead_58 : decode prog_13_method_40_code 58 = .ok (.iload 4, 2) := by decide +kernel
theorem d_Mo_workAhead_60 : decode prog_13_method_40_code 60 = .ok (.invokevirtual 207, 3) := by decide +kernel
theorem d_Mo_workAhead_63 : decode prog_13_method_40_code 63 = .ok (.iastore, 1) := by decide +kernel
theorem d_Mo_workAhead_64 : decode prog_13_method_40_code 64 = .ok (.iinc 4 1, 3) := by decide +kernel
theorem d_Mo_workAhead_67 : decode prog_13_method_40_code 67 = .ok (.goto (-27), 3) := by decide +kernel
theorem d_Mo_workAhead_70 : decode prog_13_method_40_code 70 = .ok (.aload_n 0, 1) := by decide +kernel
theorem d_Mo_workAhead_71 : decode prog_13_method_40_code 71 = .ok (.sipush 243, 3) := by decide +kernel
theorem d_Mo_workAhead_74 : decode prog_13_method_40_code 74 = .ok (.sipush 246, 3) := by decide +kernel
theorem d_Mo_workAhead_77 : decode prog_13_method_40_code 77 = .ok (.invokevirtual 106, 3) := by decide +kernel
theorem d_Mo_workAhead_80 : decode prog_13_method_40_code 80 = .ok (.aload_n 0, 1) := by decide +kernel
theorem d_Mo_workAhead_81 : decode prog_13_method_40_code 81 = .ok (.sipush 246, 3) := by decide +kernel
theorem d_Mo_workAhead_84 : decode prog_13_method_40_code 84 = .ok (.iload_n 2, 1) := by decide +kernel
theorem d_Mo_workAhead_85 : decode prog_13_method_40_code 85 = .ok (.iload_n 1, 1) := by decide +kernel
theorem d_Mo_workAhead_86 : decode prog_13_method_40_code 86 = .ok (.isub, 1) := by decide +kernel
theorem d_Mo_workAhead_87 : decode prog_13_method_40_code 87 = .ok (.invokevirtual 124, 3) := by decide +kernel
theorem d_Mo_workAhead_90 : decode prog_13_method_40_code 90 = .ok (.aload_n 0, 1) := by decide +kernel
theorem d_Mo_workAhead_91 : decode prog_13_method_40_code 91 = .ok (.getfield 13, 3) := by decide +kernel
theorem d_Mo_workAhead_94 : decode prog_13_method_40_code 94 = .ok (.sipush 247, 3) := by decide +kernel
theorem d_Mo_workAhead_97 : decode prog_13_method_40_code 97 = .ok (.iconst 0, 1) := by decide +kernel
theorem d_Mo_workAhead_98 : decode prog_13_method_40_code 98 = .ok (.iastore, 1) := by decide +kernel
theorem d_Mo_workAhead_99 : decode prog_13_method_40_code 99 = .ok (.aload_n 0, 1) := by decide +kernel
theorem d_Mo_workAhead_100 : decode prog_13_method_40_code 100 = .ok (.iload_n 1, 1) := by decide +kernel
theorem d_Mo_workAhead_101 : decode prog_13_method_40_code 101 = .ok (.iconst 0, 1) := by decide +kernel
theorem d_Mo_workAhead_102 : decode prog_13_method_40_code 102 = .ok (.invokevirtual 210, 3) := by decide +kernel
theorem d_Mo_workAhead_105 : decode prog_13_method_40_code 105 = .ok (.istore 4, 2) := by decide +kernel
theorem d_Mo_workAhead_107 : decode prog_13_method_40_code 107 = .ok (.iload 4, 2) := by decide +kernel
theorem d_Mo_workAhead_109 : decode prog_13_method_40_code 109 = .ok (.ifCond .lt 186, 3) := by decide +kernel
theorem d_Mo_workAhead_112 : decode prog_13_method_40_code 112 = .ok (.aload_n 0, 1) := by decide +kernel
theorem d_Mo_workAhead_113 : decode prog_13_method_40_code 113 = .ok (.getfield 13, 3) := by decide +kernel
theorem d_Mo_workAhead_116 : decode prog_13_method_40_code 116 = .ok (.sipush 246, 3) := by decide +kernel
theorem d_Mo_workAhead_119 : decode prog_13_method_40_code 119 = .ok (.iaload, 1) := by decide +kernel
theorem d_Mo_workAhead_120 : decode prog_13_method_40_code 120 = .ok (.ifCond .le 175, 3) := by decide +kernel
theorem d_Mo_workAhead_123 : decode prog_13_method_40_code 123 = .ok (.aload_n 0, 1) := by decide +kernel
theorem d_Mo_workAhead_124 : decode prog_13_method_40_code 124 = .ok (.sipush 230, 3) := by decide +kernel
theorem d_Mo_workAhead_127 : decode prog_13_method_40_code 127 = .ok (.iload 4, 2) := by decide +kernel
theorem d_Mo_workAhead_129 : decode prog_13_method_40_code 129 = .ok (.iadd, 1) := by decide +kernel
theorem d_Mo_workAhead_130 : decode prog_13_method_40_code 130 = .ok (.sipush 246, 3) := by decide +kernel
theorem d_Mo_workAhead_133 : decode prog_13_method_40_code 133 = .ok (.invokevirtual 117, 3) := by decide +kernel
theorem d_Mo_workAhead_136 : decode prog_13_method_40_code 136 = .ok (.ifCond .gt 120, 3) := by decide +kernel
theorem d_Mo_workAhead_139 : decode prog_13_method_40_code 139 = .ok (.aload_n 0, 1) := by decide +kernel
theorem d_Mo_workAhead_140 : decode prog_13_method_40_code 140 = .ok (.sipush 247, 3) := by decide +kernel
theorem d_Mo_workAhead_143 : decode prog_13_method_40_code 143 = .ok (.sipush 230, 3) := by decide +kernel
theorem d_Mo_workAhead_146 : decode prog_13_method_40_code 146 = .ok (.iload 4, 2) := by decide +kernel
theorem d_Mo_workAhead_148 : decode prog_13_method_40_code 148 = .ok (.iadd, 1) := by decide +kernel
theorem d_Mo_workAhead_149 : decode prog_13_method_40_code 149 = .ok (.sipush 247, 3) := by decide +kernel
theorem d_Mo_workAhead_152 : decode prog_13_method_40_code 152 = .ok (.invokevirtual 143, 3) := by decide +kernel
theorem d_Mo_workAhead_155 : decode prog_13_method_40_code 155 = .ok (.aload_n 0, 1) := by decide +kernel
theorem d_Mo_workAhead_156 : decode prog_13_method_40_code 156 = .ok (.sipush 246, 3) := by decide +kernel
theorem d_Mo_workAhead_159 : decode prog_13_method_40_code 159 = .ok (.sipush 230, 3) := by decide +kernel
theorem d_Mo_workAhead_162 : decode prog_13_method_40_code 162 = .ok (.iload 4, 2) := by decide +kernel
theorem d_Mo_workAhead_164 : decode prog_13_method_40_code 164 = .ok (.iadd, 1) := by decide +kernel
theorem d_Mo_workAhead_165 : decode prog_13_method_40_code 165 = .ok (.sipush 246, 3) := by decide +kernel
theorem d_Mo_workAhead_168 : decode prog_13_method_40_code 168 = .ok (.invokevirtual 120, 3) := by decide +kernel
theorem d_Mo_workAhead_171 : decode prog_13_method_40_code 171 = .ok (.aload_n 0, 1) := by decide +kernel
theorem d_Mo_workAhead_172 : decode prog_13_method_40_code 172 = .ok (.getfield 13, 3) := by decide +kernel
theorem d_Mo_workAhead_175 : decode prog_13_method_40_code 175 = .ok (.sipush 230, 3) := by decide +kernel
theorem d_Mo_workAhead_178 : decode prog_13_method_40_code 178 = .ok (.iload 4, 2) := by decide +kernel
theorem d_Mo_workAhead_180 : decode prog_13_method_40_code 180 = .ok (.iadd, 1) := by decide +kernel
theorem d_Mo_workAhead_181 : decode prog_13_method_40_code 181 = .ok (.iconst 0, 1) := by decide +kernel
theorem d_Mo_workAhead_182 : decode prog_13_method_40_code 182 = .ok (.iastore, 1) := by decide +kernel
theorem d_Mo_workAhead_183 : decode prog_13_method_40_code 183 = .ok (.aload_n 0, 1) := by decide +kernel
theorem d_Mo_workAhead_184 : decode prog_13_method_40_code 184 = .ok (.sipush 243, 3) := by decide +kernel
theorem d_Mo_workAhead_187 : decode prog_13_method_40_code 187 = .ok (.sipush 244, 3) := by decide +kernel
theorem d_Mo_workAhead_190 : decode prog_13_method_40_code 190 = .ok (.invokevirtual 106, 3) := by decide +kernel
theorem d_Mo_workAhead_193 : decode prog_13_method_40_code 193 = .ok (.aload_n 0, 1) := by decide +kernel
theorem d_Mo_workAhead_194 : decode prog_13_method_40_code 194 = .ok (.sipush 244, 3) := by decide +kernel
theorem d_Mo_workAhead_197 : decode prog_13_method_40_code 197 = .ok (.iload_n 1, 1) := by decide +kernel
theorem d_Mo_workAhead_198 : decode prog_13_method_40_code 198 = .ok (.invokevirtual 124, 3) := by decide +kernel
theorem d_Mo_workAhead_201 : decode prog_13_method_40_code 201 = .ok (.aload_n 0, 1) := by decide +kernel
theorem d_Mo_workAhead_202 : decode prog_13_method_40_code 202 = .ok (.sipush 244, 3) := by decide +kernel
theorem d_Mo_workAhead_205 : decode prog_13_method_40_code 205 = .ok (.sipush 247, 3) := by decide +kernel
theorem d_Mo_workAhead_208 : decode prog_13_method_40_code 208 = .ok (.sipush 244, 3) := by decide +kernel
theorem d_Mo_workAhead_211 : decode prog_13_method_40_code 211 = .ok (.invokevirtual 143, 3) := by decide +kernel
theorem d_Mo_workAhead_214 : decode prog_13_method_40_code 214 = .ok (.aload_n 0, 1) := by decide +kernel
theorem d_Mo_workAhead_215 : decode prog_13_method_40_code 215 = .ok (.sipush 244, 3) := by decide +kernel
theorem d_Mo_workAhead_218 : decode prog_13_method_40_code 218 = .ok (.iconst 2, 1) := by decide +kernel
theorem d_Mo_workAhead_219 : decode prog_13_method_40_code 219 = .ok (.bipush 60, 2) := by decide +kernel
theorem d_Mo_workAhead_221 : decode prog_13_method_40_code 221 = .ok (.iload 4, 2) := by decide +kernel
theorem d_Mo_workAhead_223 : decode prog_13_method_40_code 223 = .ok (.iadd, 1) := by decide +kernel
theorem d_Mo_workAhead_224 : decode prog_13_method_40_code 224 = .ok (.imul, 1) := by decide +kernel
theorem d_Mo_workAhead_225 : decode prog_13_method_40_code 225 = .ok (.invokevirtual 106, 3) := by decide +kernel
theorem d_Mo_workAhead_228 : decode prog_13_method_40_code 228 = .ok (.aload_n 0, 1) := by decide +kernel
theorem d_Mo_workAhead_229 : decode prog_13_method_40_code 229 = .ok (.sipush 243, 3) := by decide +kernel
theorem d_Mo_workAhead_232 : decode prog_13_method_40_code 232 = .ok (.iconst 2, 1) := by decide +kernel
theorem d_Mo_workAhead_233 : decode prog_13_method_40_code 233 = .ok (.bipush 60, 2) := by decide +kernel
theorem d_Mo_workAhead_235 : decode prog_13_method_40_code 235 = .ok (.iload 4, 2) := by decide +kernel
theorem d_Mo_workAhead_237 : decode prog_13_method_40_code 237 = .ok (.iadd, 1) := by decide +kernel
theorem d_Mo_workAhead_238 : decode prog_13_method_40_code 238 = .ok (.imul, 1) := by decide +kernel
theorem d_Mo_workAhead_239 : decode prog_13_method_40_code 239 = .ok (.iconst 1, 1) := by decide +kernel
theorem d_Mo_workAhead_240 : decode prog_13_method_40_code 240 = .ok (.iadd, 1) := by decide +kernel
theorem d_Mo_workAhead_241 : decode prog_13_method_40_code 241 = .ok (.invokevirtual 106, 3) := by decide +kernel
theorem d_Mo_workAhead_244 : decode prog_13_method_40_code 244 = .ok (.aload_n 0, 1) := by decide +kernel
theorem d_Mo_workAhead_245 : decode prog_13_method_40_code 245 = .ok (.bipush 60, 2) := by decide +kernel
theorem d_Mo_workAhead_247 : decode prog_13_method_40_code 247 = .ok (.iload 4, 2) := by decide +kernel
theorem d_Mo_workAhead_249 : decode prog_13_method_40_code 249 = .ok (.iadd, 1) := by decide +kernel
theorem d_Mo_workAhead_250 : decode prog_13_method_40_code 250 = .ok (.invokevirtual 137, 3) := by decide +kernel
theorem d_Mo_workAhead_253 : decode prog_13_method_40_code 253 = .ok (.goto 31, 3) := by decide +kernel
theorem d_Mo_workAhead_256 : decode prog_13_method_40_code 256 = .ok (.aload_n 0, 1) := by decide +kernel
theorem d_Mo_workAhead_257 : decode prog_13_method_40_code 257 = .ok (.sipush 230, 3) := by decide +kernel
theorem d_Mo_workAhead_260 : decode prog_13_method_40_code 260 = .ok (.iload 4, 2) := by decide +kernel
theorem d_Mo_workAhead_262 : decode prog_13_method_40_code 262 = .ok (.iadd, 1) := by decide +kernel
theorem d_Mo_workAhead_263 : decode prog_13_method_40_code 263 = .ok (.sipush 246, 3) := by decide +kernel
theorem d_Mo_workAhead_266 : decode prog_13_method_40_code 266 = .ok (.sipush 230, 3) := by decide +kernel
theorem d_Mo_workAhead_269 : decode prog_13_method_40_code 269 = .ok (.iload 4, 2) := by decide +kernel
theorem d_Mo_workAhead_271 : decode prog_13_method_40_code 271 = .ok (.iadd, 1) := by decide +kernel
theorem d_Mo_workAhead_272 : decode prog_13_method_40_code 272 = .ok (.invokevirtual 120, 3) := by decide +kernel
theorem d_Mo_workAhead_275 : decode prog_13_method_40_code 275 = .ok (.aload_n 0, 1) := by decide +kernel
theorem d_Mo_workAhead_276 : decode prog_13_method_40_code 276 = .ok (.getfield 13, 3) := by decide +kernel
theorem d_Mo_workAhead_279 : decode prog_13_method_40_code 279 = .ok (.sipush 246, 3) := by decide +kernel
theorem d_Mo_workAhead_282 : decode prog_13_method_40_code 282 = .ok (.iconst 0, 1) := by decide +kernel
theorem d_Mo_workAhead_283 : decode prog_13_method_40_code 283 = .ok (.iastore, 1) := by decide +kernel
theorem d_Mo_workAhead_284 : decode prog_13_method_40_code 284 = .ok (.aload_n 0, 1) := by decide +kernel
theorem d_Mo_workAhead_285 : decode prog_13_method_40_code 285 = .ok (.iload_n 1, 1) := by decide +kernel
theorem d_Mo_workAhead_286 : decode prog_13_method_40_code 286 = .ok (.iconst 0, 1) := by decide +kernel
theorem d_Mo_workAhead_287 : decode prog_13_method_40_code 287 = .ok (.invokevirtual 210, 3) := by decide +kernel
theorem d_Mo_workAhead_290 : decode prog_13_method_40_code 290 = .ok (.istore 4, 2) := by decide +kernel
theorem d_Mo_workAhead_292 : decode prog_13_method_40_code 292 = .ok (.goto (-185), 3) := by decide +kernel
theorem d_Mo_workAhead_295 : decode prog_13_method_40_code 295 = .ok (.return_, 1) := by decide +kernel
theorem d_Mo_whoAt_0 : decode prog_13_method_41_code 0 = .ok (.aload_n 0, 1) := by decide +kernel
theorem d_Mo_whoAt_1 : decode prog_13_method_41_code 1 = .ok (.sipush 243, 3) := by decide +kernel
theorem d_Mo_whoAt_4 : decode prog_13_method_41_code 4 = .ok (.sipush 244, 3) := by decide +kernel
theorem d_Mo_whoAt_7 : decode prog_13_method_41_code 7 = .ok (.invokevirtual 106, 3) := by decide +kernel
theorem d_Mo_whoAt_10 : decode prog_13_method_41_code 10 = .ok (.aload_n 0, 1) := by decide +kernel
theorem d_Mo_whoAt_11 : decode prog_13_method_41_code 11 = .ok (.sipush 244, 3) := by decide +kernel
theorem d_Mo_whoAt_14 : decode prog_13_method_41_code 14 = .ok (.iload_n 2, 1) := by decide +kernel
theorem d_Mo_whoAt_15 : decode prog_13_method_41_code 15 = .ok (.invokevirtual 124, 3) := by decide +kernel
theorem d_Mo_whoAt_18 : decode prog_13_method_41_code 18 = .ok (.aload_n 0, 1) := by decide +kernel
theorem d_Mo_whoAt_19 : decode prog_13_method_41_code 19 = .ok (.getfield 13, 3) := by decide +kernel
theorem d_Mo_whoAt_22 : decode prog_13_method_41_code 22 = .ok (.sipush 245, 3) := by decide +kernel
theorem d_Mo_whoAt_25 : decode prog_13_method_41_code 25 = .ok (.iconst 0, 1) := by decide +kernel
theorem d_Mo_whoAt_26 : decode prog_13_method_41_code 26 = .ok (.iastore, 1) := by decide +kernel
theorem d_Mo_whoAt_27 : decode prog_13_method_41_code 27 = .ok (.iconst 0, 1) := by decide +kernel
theorem d_Mo_whoAt_28 : decode prog_13_method_41_code 28 = .ok (.istore_n 3, 1) := by decide +kernel
theorem d_Mo_whoAt_29 : decode prog_13_method_41_code 29 = .ok (.aload_n 0, 1) := by decide +kernel
theorem d_Mo_whoAt_30 : decode prog_13_method_41_code 30 = .ok (.iload_n 1, 1) := by decide +kernel
theorem d_Mo_whoAt_31 : decode prog_13_method_41_code 31 = .ok (.iconst 0, 1) := by decide +kernel
theorem d_Mo_whoAt_32 : decode prog_13_method_41_code 32 = .ok (.invokevirtual 210, 3) := by decide +kernel
theorem d_Mo_whoAt_35 : decode prog_13_method_41_code 35 = .ok (.istore 4, 2) := by decide +kernel
theorem d_Mo_whoAt_37 : decode prog_13_method_41_code 37 = .ok (.iload 4, 2) := by decide +kernel
theorem d_Mo_whoAt_39 : decode prog_13_method_41_code 39 = .ok (.ifCond .lt 49, 3) := by decide +kernel
theorem d_Mo_whoAt_42 : decode prog_13_method_41_code 42 = .ok (.aload_n 0, 1) := by decide +kernel
theorem d_Mo_whoAt_43 : decode prog_13_method_41_code 43 = .ok (.sipush 245, 3) := by decide +kernel
theorem d_Mo_whoAt_46 : decode prog_13_method_41_code 46 = .ok (.sipush 230, 3) := by decide +kernel
theorem d_Mo_whoAt_49 : decode prog_13_method_41_code 49 = .ok (.iload 4, 2) := by decide +kernel
theorem d_Mo_whoAt_51 : decode prog_13_method_41_code 51 = .ok (.iadd, 1) := by decide +kernel
theorem d_Mo_whoAt_52 : decode prog_13_method_41_code 52 = .ok (.sipush 245, 3) := by decide +kernel
theorem d_Mo_whoAt_55 : decode prog_13_method_41_code 55 = .ok (.invokevirtual 143, 3) := by decide +kernel
theorem d_Mo_whoAt_58 : decode prog_13_method_41_code 58 = .ok (.aload_n 0, 1) := by decide +kernel
theorem d_Mo_whoAt_59 : decode prog_13_method_41_code 59 = .ok (.sipush 245, 3) := by decide +kernel
theorem d_Mo_whoAt_62 : decode prog_13_method_41_code 62 = .ok (.sipush 244, 3) := by decide +kernel
theorem d_Mo_whoAt_65 : decode prog_13_method_41_code 65 = .ok (.invokevirtual 117, 3) := by decide +kernel
theorem d_Mo_whoAt_68 : decode prog_13_method_41_code 68 = .ok (.ifCond .le 6, 3) := by decide +kernel
theorem d_Mo_whoAt_71 : decode prog_13_method_41_code 71 = .ok (.iload 4, 2) := by decide +kernel
theorem d_Mo_whoAt_73 : decode prog_13_method_41_code 73 = .ok (.ireturn, 1) := by decide +kernel
theorem d_Mo_whoAt_74 : decode prog_13_method_41_code 74 = .ok (.iinc 3 1, 3) := by decide +kernel
theorem d_Mo_whoAt_77 : decode prog_13_method_41_code 77 = .ok (.aload_n 0, 1) := by decide +kernel
theorem d_Mo_whoAt_78 : decode prog_13_method_41_code 78 = .ok (.iload_n 1, 1) := by decide +kernel
theorem d_Mo_whoAt_79 : decode prog_13_method_41_code 79 = .ok (.iload_n 3, 1) := by decide +kernel
theorem d_Mo_whoAt_80 : decode prog_13_method_41_code 80 = .ok (.invokevirtual 210, 3) := by decide +kernel
theorem d_Mo_whoAt_83 : decode prog_13_method_41_code 83 = .ok (.istore 4, 2) := by decide +kernel
theorem d_Mo_whoAt_85 : decode prog_13_method_41_code 85 = .ok (.goto (-48), 3) := by decide +kernel
theorem d_Mo_whoAt_88 : decode prog_13_method_41_code 88 = .ok (.iconst (-1), 1) := by decide +kernel
theorem d_Mo_whoAt_89 : decode prog_13_method_41_code 89 = .ok (.ireturn, 1) := by decide +kernel
theorem d_Mo_ahead_0 : decode prog_13_method_42_code 0 = .ok (.aload_n 0, 1) := by decide +kernel
theorem d_Mo_ahead_1 : decode prog_13_method_42_code 1 = .ok (.iconst 0, 1) := by decide +kernel
theorem d_Mo_ahead_2 : decode prog_13_method_42_code 2 = .ok (.putfield 91, 3) := by decide +kernel
theorem d_Mo_ahead_5 : decode prog_13_method_42_code 5 = .ok (.aload_n 0, 1) := by decide +kernel
theorem d_Mo_ahead_6 : decode prog_13_method_42_code 6 = .ok (.iconst 1, 1) := by decide +kernel
theorem d_Mo_ahead_7 : decode prog_13_method_42_code 7 = .ok (.putfield 156, 3) := by decide +kernel
theorem d_Mo_ahead_10 : decode prog_13_method_42_code 10 = .ok (.aload_n 0, 1) := by decide +kernel
theorem d_Mo_ahead_11 : decode prog_13_method_42_code 11 = .ok (.iconst 0, 1) := by decide +kernel
theorem d_Mo_ahead_12 : decode prog_13_method_42_code 12 = .ok (.putfield 213, 3) := by decide +kernel
theorem d_Mo_ahead_15 : decode prog_13_method_42_code 15 = .ok (.iconst 0, 1) := by decide +kernel
theorem d_Mo_ahead_16 : decode prog_13_method_42_code 16 = .ok (.istore_n 1, 1) := by decide +kernel
theorem d_Mo_ahead_17 : decode prog_13_method_42_code 17 = .ok (.iload_n 1, 1) := by decide +kernel
theorem d_Mo_ahead_18 : decode prog_13_method_42_code 18 = .ok (.sipush 200, 3) := by decide +kernel
theorem d_Mo_ahead_21 : decode prog_13_method_42_code 21 = .ok (.if_icmp .ge 16, 3) := by decide +kernel
theorem d_Mo_ahead_24 : decode prog_13_method_42_code 24 = .ok (.aload_n 0, 1) := by decide +kernel
theorem d_Mo_ahead_25 : decode prog_13_method_42_code 25 = .ok (.getfield 75, 3) := by decide +kernel
theorem d_Mo_ahead_28 : decode prog_13_method_42_code 28 = .ok (.iload_n 1, 1) := by decide +kernel
theorem d_Mo_ahead_29 : decode prog_13_method_42_code 29 = .ok (.iconst (-1), 1) := by decide +kernel
theorem d_Mo_ahead_30 : decode prog_13_method_42_code 30 = .ok (.iastore, 1) := by decide +kernel
theorem d_Mo_ahead_31 : decode prog_13_method_42_code 31 = .ok (.iinc 1 1, 3) := by decide +kernel
theorem d_Mo_ahead_34 : decode prog_13_method_42_code 34 = .ok (.goto (-17), 3) := by decide +kernel
theorem d_Mo_ahead_37 : decode prog_13_method_42_code 37 = .ok (.aload_n 0, 1) := by decide +kernel
theorem d_Mo_ahead_38 : decode prog_13_method_42_code 38 = .ok (.sipush 242, 3) := by decide +kernel
theorem d_Mo_ahead_41 : decode prog_13_method_42_code 41 = .ok (.lconst 1, 1) := by decide +kernel
theorem d_Mo_ahead_42 : decode prog_13_method_42_code 42 = .ok (.invokevirtual 127, 3) := by decide +kernel
theorem d_Mo_ahead_45 : decode prog_13_method_42_code 45 = .ok (.iconst 0, 1) := by decide +kernel
theorem d_Mo_ahead_46 : decode prog_13_method_42_code 46 = .ok (.istore_n 1, 1) := by decide +kernel
theorem d_Mo_ahead_47 : decode prog_13_method_42_code 47 = .ok (.iload_n 1, 1) := by decide +kernel
theorem d_Mo_ahead_48 : decode prog_13_method_42_code 48 = .ok (.aload_n 0, 1) := by decide +kernel
theorem d_Mo_ahead_49 : decode prog_13_method_42_code 49 = .ok (.getfield 153, 3) := by decide +kernel
theorem d_Mo_ahead_52 : decode prog_13_method_42_code 52 = .ok (.if_icmp .ge 25, 3) := by decide +kernel
theorem d_Mo_ahead_55 : decode prog_13_method_42_code 55 = .ok (.aload_n 0, 1) := by decide +kernel
theorem d_Mo_ahead_56 : decode prog_13_method_42_code 56 = .ok (.sipush 230, 3) := by decide +kernel
theorem d_Mo_ahead_59 : decode prog_13_method_42_code 59 = .ok (.iload_n 1, 1) := by decide +kernel
theorem d_Mo_ahead_60 : decode prog_13_method_42_code 60 = .ok (.iadd, 1) := by decide +kernel
theorem d_Mo_ahead_61 : decode prog_13_method_42_code 61 = .ok (.aload_n 0, 1) := by decide +kernel
theorem d_Mo_ahead_62 : decode prog_13_method_42_code 62 = .ok (.getfield 22, 3) := by decide +kernel
theorem d_Mo_ahead_65 : decode prog_13_method_42_code 65 = .ok (.iload_n 1, 1) := by decide +kernel
theorem d_Mo_ahead_66 : decode prog_13_method_42_code 66 = .ok (.iaload, 1) := by decide +kernel
theorem d_Mo_ahead_67 : decode prog_13_method_42_code 67 = .ok (.i2l, 1) := by decide +kernel
theorem d_Mo_ahead_68 : decode prog_13_method_42_code 68 = .ok (.invokevirtual 127, 3) := by decide +kernel
theorem d_Mo_ahead_71 : decode prog_13_method_42_code 71 = .ok (.iinc 1 1, 3) := by decide +kernel
theorem d_Mo_ahead_74 : decode prog_13_method_42_code 74 = .ok (.goto (-27), 3) := by decide +kernel
theorem d_Mo_ahead_77 : decode prog_13_method_42_code 77 = .ok (.aload_n 0, 1) := by decide +kernel
theorem d_Mo_ahead_78 : decode prog_13_method_42_code 78 = .ok (.invokevirtual 195, 3) := by decide +kernel
theorem d_Mo_ahead_81 : decode prog_13_method_42_code 81 = .ok (.istore_n 1, 1) := by decide +kernel
theorem d_Mo_ahead_82 : decode prog_13_method_42_code 82 = .ok (.aload_n 0, 1) := by decide +kernel
theorem d_Mo_ahead_83 : decode prog_13_method_42_code 83 = .ok (.invokevirtual 191, 3) := by decide +kernel
theorem d_Mo_ahead_86 : decode prog_13_method_42_code 86 = .ok (.istore_n 2, 1) := by decide +kernel
theorem d_Mo_ahead_87 : decode prog_13_method_42_code 87 = .ok (.iload_n 2, 1) := by decide +kernel
theorem d_Mo_ahead_88 : decode prog_13_method_42_code 88 = .ok (.iload_n 1, 1) := by decide +kernel
theorem d_Mo_ahead_89 : decode prog_13_method_42_code 89 = .ok (.if_icmp .ge 158, 3) := by decide +kernel
theorem d_Mo_ahead_92 : decode prog_13_method_42_code 92 = .ok (.aload_n 0, 1) := by decide +kernel
theorem d_Mo_ahead_93 : decode prog_13_method_42_code 93 = .ok (.iload_n 2, 1) := by decide +kernel
theorem d_Mo_ahead_94 : decode prog_13_method_42_code 94 = .ok (.invokevirtual 216, 3) := by decide +kernel
theorem d_Mo_ahead_97 : decode prog_13_method_42_code 97 = .ok (.istore_n 3, 1) := by decide +kernel
theorem d_Mo_ahead_98 : decode prog_13_method_42_code 98 = .ok (.aload_n 0, 1) := by decide +kernel
theorem d_Mo_ahead_99 : decode prog_13_method_42_code 99 = .ok (.iload_n 2, 1) := by decide +kernel
theorem d_Mo_ahead_100 : decode prog_13_method_42_code 100 = .ok (.invokevirtual 219, 3) := by decide +kernel
theorem d_Mo_ahead_103 : decode prog_13_method_42_code 103 = .ok (.istore 4, 2) := by decide +kernel
theorem d_Mo_ahead_105 : decode prog_13_method_42_code 105 = .ok (.iload 4, 2) := by decide +kernel
theorem d_Mo_ahead_107 : decode prog_13_method_42_code 107 = .ok (.ifCond .le 43, 3) := by decide +kernel
theorem d_Mo_ahead_110 : decode prog_13_method_42_code 110 = .ok (.aload_n 0, 1) := by decide +kernel
theorem d_Mo_ahead_111 : decode prog_13_method_42_code 111 = .ok (.sipush 243, 3) := by decide +kernel
theorem d_Mo_ahead_114 : decode prog_13_method_42_code 114 = .ok (.sipush 222, 3) := by decide +kernel
theorem d_Mo_ahead_117 : decode prog_13_method_42_code 117 = .ok (.invokevirtual 106, 3) := by decide +kernel
theorem d_Mo_ahead_120 : decode prog_13_method_42_code 120 = .ok (.aload_n 0, 1) := by decide +kernel
theorem d_Mo_ahead_121 : decode prog_13_method_42_code 121 = .ok (.sipush 242, 3) := by decide +kernel
theorem d_Mo_ahead_124 : decode prog_13_method_42_code 124 = .ok (.sipush 223, 3) := by decide +kernel
theorem d_Mo_ahead_127 : decode prog_13_method_42_code 127 = .ok (.invokevirtual 106, 3) := by decide +kernel
theorem d_Mo_ahead_130 : decode prog_13_method_42_code 130 = .ok (.aload_n 0, 1) := by decide +kernel
theorem d_Mo_ahead_131 : decode prog_13_method_42_code 131 = .ok (.sipush 223, 3) := by decide +kernel
theorem d_Mo_ahead_134 : decode prog_13_method_42_code 134 = .ok (.iload 4, 2) := by decide +kernel
theorem d_Mo_ahead_136 : decode prog_13_method_42_code 136 = .ok (.invokevirtual 124, 3) := by decide +kernel
theorem d_Mo_ahead_139 : decode prog_13_method_42_code 139 = .ok (.aload_n 0, 1) := by decide +kernel
theorem d_Mo_ahead_140 : decode prog_13_method_42_code 140 = .ok (.iload_n 2, 1) := by decide +kernel
theorem d_Mo_ahead_141 : decode prog_13_method_42_code 141 = .ok (.iload_n 3, 1) := by decide +kernel
theorem d_Mo_ahead_142 : decode prog_13_method_42_code 142 = .ok (.iload 4, 2) := by decide +kernel
theorem d_Mo_ahead_144 : decode prog_13_method_42_code 144 = .ok (.invokevirtual 222, 3) := by decide +kernel
theorem d_Mo_ahead_147 : decode prog_13_method_42_code 147 = .ok (.goto 19, 3) := by decide +kernel
theorem d_Mo_ahead_150 : decode prog_13_method_42_code 150 = .ok (.aload_n 0, 1) := by decide +kernel
theorem d_Mo_ahead_151 : decode prog_13_method_42_code 151 = .ok (.sipush 222, 3) := by decide +kernel
theorem d_Mo_ahead_154 : decode prog_13_method_42_code 154 = .ok (.lconst 0, 1) := by decide +kernel
theorem d_Mo_ahead_155 : decode prog_13_method_42_code 155 = .ok (.invokevirtual 127, 3) := by decide +kernel
theorem d_Mo_ahead_158 : decode prog_13_method_42_code 158 = .ok (.aload_n 0, 1) := by decide +kernel
theorem d_Mo_ahead_159 : decode prog_13_method_42_code 159 = .ok (.sipush 223, 3) := by decide +kernel
theorem d_Mo_ahead_162 : decode prog_13_method_42_code 162 = .ok (.lconst 1, 1) := by decide +kernel
theorem d_Mo_ahead_163 : decode prog_13_method_42_code 163 = .ok (.invokevirtual 127, 3) := by decide +kernel
theorem d_Mo_ahead_166 : decode prog_13_method_42_code 166 = .ok (.aload_n 0, 1) := by decide +kernel
theorem d_Mo_ahead_167 : decode prog_13_method_42_code 167 = .ok (.bipush 111, 2) := by decide +kernel
theorem d_Mo_ahead_169 : decode prog_13_method_42_code 169 = .ok (.invokevirtual 137, 3) := by decide +kernel
theorem d_Mo_ahead_172 : decode prog_13_method_42_code 172 = .ok (.aload_n 0, 1) := by decide +kernel
theorem d_Mo_ahead_173 : decode prog_13_method_42_code 173 = .ok (.getfield 213, 3) := by decide +kernel
theorem d_Mo_ahead_176 : decode prog_13_method_42_code 176 = .ok (.ifCond .eq 21, 3) := by decide +kernel
theorem d_Mo_ahead_179 : decode prog_13_method_42_code 179 = .ok (.aload_n 0, 1) := by decide +kernel
theorem d_Mo_ahead_180 : decode prog_13_method_42_code 180 = .ok (.bipush 111, 2) := by decide +kernel
theorem d_Mo_ahead_182 : decode prog_13_method_42_code 182 = .ok (.bipush 24, 2) := by decide +kernel
theorem d_Mo_ahead_184 : decode prog_13_method_42_code 184 = .ok (.aload_n 0, 1) := by decide +kernel
theorem d_Mo_ahead_185 : decode prog_13_method_42_code 185 = .ok (.getfield 213, 3) := by decide +kernel
theorem d_Mo_ahead_188 : decode prog_13_method_42_code 188 = .ok (.iadd, 1) := by decide +kernel
theorem d_Mo_ahead_189 : decode prog_13_method_42_code 189 = .ok (.iconst 1, 1) := by decide +kernel
theorem d_Mo_ahead_190 : decode prog_13_method_42_code 190 = .ok (.isub, 1) := by decide +kernel
theorem d_Mo_ahead_191 : decode prog_13_method_42_code 191 = .ok (.invokevirtual 225, 3) := by decide +kernel
theorem d_Mo_ahead_194 : decode prog_13_method_42_code 194 = .ok (.ifCond .ne 36, 3) := by decide +kernel
theorem d_Mo_ahead_197 : decode prog_13_method_42_code 197 = .ok (.aload_n 0, 1) := by decide +kernel
theorem d_Mo_ahead_198 : decode prog_13_method_42_code 198 = .ok (.bipush 111, 2) := by decide +kernel
theorem d_Mo_ahead_200 : decode prog_13_method_42_code 200 = .ok (.bipush 24, 2) := by decide +kernel
theorem d_Mo_ahead_202 : decode prog_13_method_42_code 202 = .ok (.aload_n 0, 1) := by decide +kernel
theorem d_Mo_ahead_203 : decode prog_13_method_42_code 203 = .ok (.getfield 213, 3) := by decide +kernel
theorem d_Mo_ahead_206 : decode prog_13_method_42_code 206 = .ok (.iadd, 1) := by decide +kernel
theorem d_Mo_ahead_207 : decode prog_13_method_42_code 207 = .ok (.invokevirtual 204, 3) := by decide +kernel
theorem d_Mo_ahead_210 : decode prog_13_method_42_code 210 = .ok (.aload_n 0, 1) := by decide +kernel
theorem d_Mo_ahead_211 : decode prog_13_method_42_code 211 = .ok (.getfield 69, 3) := by decide +kernel
theorem d_Mo_ahead_214 : decode prog_13_method_42_code 214 = .ok (.aload_n 0, 1) := by decide +kernel
theorem d_Mo_ahead_215 : decode prog_13_method_42_code 215 = .ok (.getfield 213, 3) := by decide +kernel
theorem d_Mo_ahead_218 : decode prog_13_method_42_code 218 = .ok (.iload_n 2, 1) := by decide +kernel
theorem d_Mo_ahead_219 : decode prog_13_method_42_code 219 = .ok (.iastore, 1) := by decide +kernel
theorem d_Mo_ahead_220 : decode prog_13_method_42_code 220 = .ok (.aload_n 0, 1) := by decide +kernel
theorem d_Mo_ahead_221 : decode prog_13_method_42_code 221 = .ok (.dup, 1) := by decide +kernel
theorem d_Mo_ahead_222 : decode prog_13_method_42_code 222 = .ok (.getfield 213, 3) := by decide +kernel
theorem d_Mo_ahead_225 : decode prog_13_method_42_code 225 = .ok (.iconst 1, 1) := by decide +kernel
theorem d_Mo_ahead_226 : decode prog_13_method_42_code 226 = .ok (.iadd, 1) := by decide +kernel
theorem d_Mo_ahead_227 : decode prog_13_method_42_code 227 = .ok (.putfield 213, 3) := by decide +kernel
theorem d_Mo_ahead_230 : decode prog_13_method_42_code 230 = .ok (.aload_n 0, 1) := by decide +kernel
theorem d_Mo_ahead_231 : decode prog_13_method_42_code 231 = .ok (.getfield 72, 3) := by decide +kernel
theorem d_Mo_ahead_234 : decode prog_13_method_42_code 234 = .ok (.aload_n 0, 1) := by decide +kernel
theorem d_Mo_ahead_235 : decode prog_13_method_42_code 235 = .ok (.getfield 213, 3) := by decide +kernel
theorem d_Mo_ahead_238 : decode prog_13_method_42_code 238 = .ok (.iconst 1, 1) := by decide +kernel
theorem d_Mo_ahead_239 : decode prog_13_method_42_code 239 = .ok (.isub, 1) := by decide +kernel
theorem d_Mo_ahead_240 : decode prog_13_method_42_code 240 = .ok (.iload_n 3, 1) := by decide +kernel
theorem d_Mo_ahead_241 : decode prog_13_method_42_code 241 = .ok (.iastore, 1) := by decide +kernel
theorem d_Mo_ahead_242 : decode prog_13_method_42_code 242 = .ok (.iload_n 3, 1) := by decide +kernel
theorem d_Mo_ahead_243 : decode prog_13_method_42_code 243 = .ok (.istore_n 2, 1) := by decide +kernel
theorem d_Mo_ahead_244 : decode prog_13_method_42_code 244 = .ok (.goto (-157), 3) := by decide +kernel
theorem d_Mo_ahead_247 : decode prog_13_method_42_code 247 = .ok (.aload_n 0, 1) := by decide +kernel
theorem d_Mo_ahead_248 : decode prog_13_method_42_code 248 = .ok (.sipush 224, 3) := by decide +kernel
theorem d_Mo_ahead_251 : decode prog_13_method_42_code 251 = .ok (.lconst 0, 1) := by decide +kernel
theorem d_Mo_ahead_252 : decode prog_13_method_42_code 252 = .ok (.invokevirtual 127, 3) := by decide +kernel
theorem d_Mo_ahead_255 : decode prog_13_method_42_code 255 = .ok (.aload_n 0, 1) := by decide +kernel
theorem d_Mo_ahead_256 : decode prog_13_method_42_code 256 = .ok (.sipush 225, 3) := by decide +kernel
theorem d_Mo_ahead_259 : decode prog_13_method_42_code 259 = .ok (.lconst 1, 1) := by decide +kernel
theorem d_Mo_ahead_260 : decode prog_13_method_42_code 260 = .ok (.invokevirtual 127, 3) := by decide +kernel
theorem d_Mo_ahead_263 : decode prog_13_method_42_code 263 = .ok (.iconst 0, 1) := by decide +kernel
theorem d_Mo_ahead_264 : decode prog_13_method_42_code 264 = .ok (.istore_n 3, 1) := by decide +kernel
theorem d_Mo_ahead_265 : decode prog_13_method_42_code 265 = .ok (.iload_n 3, 1) := by decide +kernel
theorem d_Mo_ahead_266 : decode prog_13_method_42_code 266 = .ok (.aload_n 0, 1) := by decide +kernel
theorem d_Mo_ahead_267 : decode prog_13_method_42_code 267 = .ok (.getfield 213, 3) := by decide +kernel
theorem d_Mo_ahead_270 : decode prog_13_method_42_code 270 = .ok (.if_icmp .ge 30, 3) := by decide +kernel
theorem d_Mo_ahead_273 : decode prog_13_method_42_code 273 = .ok (.aload_n 0, 1) := by decide +kernel
theorem d_Mo_ahead_274 : decode prog_13_method_42_code 274 = .ok (.bipush 24, 2) := by decide +kernel
theorem d_Mo_ahead_276 : decode prog_13_method_42_code 276 = .ok (.iload_n 3, 1) := by decide +kernel
theorem d_Mo_ahead_277 : decode prog_13_method_42_code 277 = .ok (.iadd, 1) := by decide +kernel
theorem d_Mo_ahead_278 : decode prog_13_method_42_code 278 = .ok (.aload_n 0, 1) := by decide +kernel
theorem d_Mo_ahead_279 : decode prog_13_method_42_code 279 = .ok (.getfield 72, 3) := by decide +kernel
theorem d_Mo_ahead_282 : decode prog_13_method_42_code 282 = .ok (.iload_n 3, 1) := by decide +kernel
theorem d_Mo_ahead_283 : decode prog_13_method_42_code 283 = .ok (.iaload, 1) := by decide +kernel
theorem d_Mo_ahead_284 : decode prog_13_method_42_code 284 = .ok (.aload_n 0, 1) := by decide +kernel
theorem d_Mo_ahead_285 : decode prog_13_method_42_code 285 = .ok (.getfield 69, 3) := by decide +kernel
theorem d_Mo_ahead_288 : decode prog_13_method_42_code 288 = .ok (.iload_n 3, 1) := by decide +kernel
theorem d_Mo_ahead_289 : decode prog_13_method_42_code 289 = .ok (.iaload, 1) := by decide +kernel
theorem d_Mo_ahead_290 : decode prog_13_method_42_code 290 = .ok (.isub, 1) := by decide +kernel
theorem d_Mo_ahead_291 : decode prog_13_method_42_code 291 = .ok (.invokevirtual 201, 3) := by decide +kernel
theorem d_Mo_ahead_294 : decode prog_13_method_42_code 294 = .ok (.iinc 3 1, 3) := by decide +kernel
theorem d_Mo_ahead_297 : decode prog_13_method_42_code 297 = .ok (.goto (-32), 3) := by decide +kernel
theorem d_Mo_ahead_300 : decode prog_13_method_42_code 300 = .ok (.aload_n 0, 1) := by decide +kernel
theorem d_Mo_ahead_301 : decode prog_13_method_42_code 301 = .ok (.bipush 112, 2) := by decide +kernel
theorem d_Mo_ahead_303 : decode prog_13_method_42_code 303 = .ok (.bipush 109, 2) := by decide +kernel
theorem d_Mo_ahead_305 : decode prog_13_method_42_code 305 = .ok (.invokevirtual 204, 3) := by decide +kernel
theorem d_Mo_ahead_308 : decode prog_13_method_42_code 308 = .ok (.aload_n 0, 1) := by decide +kernel
theorem d_Mo_ahead_309 : decode prog_13_method_42_code 309 = .ok (.getfield 213, 3) := by decide +kernel
theorem d_Mo_ahead_312 : decode prog_13_method_42_code 312 = .ok (.ireturn, 1) := by decide +kernel
theorem d_Mo_split_0 : decode prog_13_method_43_code 0 = .ok (.aload_n 0, 1) := by decide +kernel
theorem d_Mo_split_1 : decode prog_13_method_43_code 1 = .ok (.aload_n 0, 1) := by decide +kernel
theorem d_Mo_split_2 : decode prog_13_method_43_code 2 = .ok (.getfield 87, 3) := by decide +kernel
theorem d_Mo_split_5 : decode prog_13_method_43_code 5 = .ok (.ifCond .eq 7, 3) := by decide +kernel
theorem d_Mo_split_8 : decode prog_13_method_43_code 8 = .ok (.iconst 0, 1) := by decide +kernel
theorem d_Mo_split_9 : decode prog_13_method_43_code 9 = .ok (.goto 4, 3) := by decide +kernel
theorem d_Mo_split_12 : decode prog_13_method_43_code 12 = .ok (.iconst 1, 1) := by decide +kernel
theorem d_Mo_split_13 : decode prog_13_method_43_code 13 = .ok (.putfield 91, 3) := by decide +kernel
theorem d_Mo_split_16 : decode prog_13_method_43_code 16 = .ok (.aload_n 0, 1) := by decide +kernel
theorem d_Mo_split_17 : decode prog_13_method_43_code 17 = .ok (.getfield 91, 3) := by decide +kernel
theorem d_Mo_split_20 : decode prog_13_method_43_code 20 = .ok (.ifCond .le 5, 3) := by decide +kernel
theorem d_Mo_split_23 : decode prog_13_method_43_code 23 = .ok (.iconst 0, 1) := by decide +kernel
theorem d_Mo_split_24 : decode prog_13_method_43_code 24 = .ok (.ireturn, 1) := by decide +kernel
theorem d_Mo_split_25 : decode prog_13_method_43_code 25 = .ok (.aload_n 0, 1) := by decide +kernel
theorem d_Mo_split_26 : decode prog_13_method_43_code 26 = .ok (.iconst 0, 1) := by decide +kernel
theorem d_Mo_split_27 : decode prog_13_method_43_code 27 = .ok (.putfield 159, 3) := by decide +kernel
theorem d_Mo_split_30 : decode prog_13_method_43_code 30 = .ok (.iconst 0, 1) := by decide +kernel
theorem d_Mo_split_31 : decode prog_13_method_43_code 31 = .ok (.istore_n 1, 1) := by decide +kernel
theorem d_Mo_split_32 : decode prog_13_method_43_code 32 = .ok (.iload_n 1, 1) := by decide +kernel
theorem d_Mo_split_33 : decode prog_13_method_43_code 33 = .ok (.aload_n 0, 1) := by decide +kernel
theorem d_Mo_split_34 : decode prog_13_method_43_code 34 = .ok (.getfield 153, 3) := by decide +kernel
theorem d_Mo_split_37 : decode prog_13_method_43_code 37 = .ok (.if_icmp .ge 47, 3) := by decide +kernel
theorem d_Mo_split_40 : decode prog_13_method_43_code 40 = .ok (.aload_n 0, 1) := by decide +kernel
theorem d_Mo_split_41 : decode prog_13_method_43_code 41 = .ok (.getfield 163, 3) := by decide +kernel
theorem d_Mo_split_44 : decode prog_13_method_43_code 44 = .ok (.ifCond .eq 32, 3) := by decide +kernel
theorem d_Mo_split_47 : decode prog_13_method_43_code 47 = .ok (.aload_n 0, 1) := by decide +kernel
theorem d_Mo_split_48 : decode prog_13_method_43_code 48 = .ok (.getfield 45, 3) := by decide +kernel
theorem d_Mo_split_51 : decode prog_13_method_43_code 51 = .ok (.iload_n 1, 1) := by decide +kernel
theorem d_Mo_split_52 : decode prog_13_method_43_code 52 = .ok (.laload, 1) := by decide +kernel
theorem d_Mo_split_53 : decode prog_13_method_43_code 53 = .ok (.aload_n 0, 1) := by decide +kernel
theorem d_Mo_split_54 : decode prog_13_method_43_code 54 = .ok (.getfield 25, 3) := by decide +kernel
theorem d_Mo_split_57 : decode prog_13_method_43_code 57 = .ok (.aload_n 0, 1) := by decide +kernel
theorem d_Mo_split_58 : decode prog_13_method_43_code 58 = .ok (.getfield 163, 3) := by decide +kernel
theorem d_Mo_split_61 : decode prog_13_method_43_code 61 = .ok (.iconst 1, 1) := by decide +kernel
theorem d_Mo_split_62 : decode prog_13_method_43_code 62 = .ok (.isub, 1) := by decide +kernel
theorem d_Mo_split_63 : decode prog_13_method_43_code 63 = .ok (.iaload, 1) := by decide +kernel
theorem d_Mo_split_64 : decode prog_13_method_43_code 64 = .ok (.i2l, 1) := by decide +kernel
theorem d_Mo_split_65 : decode prog_13_method_43_code 65 = .ok (.aload_n 0, 1) := by decide +kernel
theorem d_Mo_split_66 : decode prog_13_method_43_code 66 = .ok (.getfield 48, 3) := by decide +kernel
theorem d_Mo_split_69 : decode prog_13_method_43_code 69 = .ok (.iload_n 1, 1) := by decide +kernel
theorem d_Mo_split_70 : decode prog_13_method_43_code 70 = .ok (.laload, 1) := by decide +kernel
theorem d_Mo_split_71 : decode prog_13_method_43_code 71 = .ok (.lmul, 1) := by decide +kernel
theorem d_Mo_split_72 : decode prog_13_method_43_code 72 = .ok (.lcmp, 1) := by decide +kernel
theorem d_Mo_split_73 : decode prog_13_method_43_code 73 = .ok (.ifCond .le 5, 3) := by decide +kernel
theorem d_Mo_split_76 : decode prog_13_method_43_code 76 = .ok (.iconst 0, 1) := by decide +kernel
theorem d_Mo_split_77 : decode prog_13_method_43_code 77 = .ok (.ireturn, 1) := by decide +kernel
theorem d_Mo_split_78 : decode prog_13_method_43_code 78 = .ok (.iinc 1 1, 3) := by decide +kernel
theorem d_Mo_split_81 : decode prog_13_method_43_code 81 = .ok (.goto (-49), 3) := by decide +kernel
theorem d_Mo_split_84 : decode prog_13_method_43_code 84 = .ok (.aload_n 0, 1) := by decide +kernel
theorem d_Mo_split_85 : decode prog_13_method_43_code 85 = .ok (.sipush 224, 3) := by decide +kernel
theorem d_Mo_split_88 : decode prog_13_method_43_code 88 = .ok (.lconst 0, 1) := by decide +kernel
theorem d_Mo_split_89 : decode prog_13_method_43_code 89 = .ok (.invokevirtual 127, 3) := by decide +kernel
theorem d_Mo_split_92 : decode prog_13_method_43_code 92 = .ok (.aload_n 0, 1) := by decide +kernel
theorem d_Mo_split_93 : decode prog_13_method_43_code 93 = .ok (.sipush 225, 3) := by decide +kernel
theorem d_Mo_split_96 : decode prog_13_method_43_code 96 = .ok (.lconst 1, 1) := by decide +kernel
theorem d_Mo_split_97 : decode prog_13_method_43_code 97 = .ok (.invokevirtual 127, 3) := by decide +kernel
theorem d_Mo_split_100 : decode prog_13_method_43_code 100 = .ok (.iconst 0, 1) := by decide +kernel
theorem d_Mo_split_101 : decode prog_13_method_43_code 101 = .ok (.istore_n 1, 1) := by decide +kernel
theorem d_Mo_split_102 : decode prog_13_method_43_code 102 = .ok (.iload_n 1, 1) := by decide +kernel
theorem d_Mo_split_103 : decode prog_13_method_43_code 103 = .ok (.aload_n 0, 1) := by decide +kernel
theorem d_Mo_split_104 : decode prog_13_method_43_code 104 = .ok (.getfield 153, 3) := by decide +kernel
theorem d_Mo_split_107 : decode prog_13_method_43_code 107 = .ok (.if_icmp .ge 14, 3) := by decide +kernel
theorem d_Mo_split_110 : decode prog_13_method_43_code 110 = .ok (.aload_n 0, 1) := by decide +kernel
theorem d_Mo_split_111 : decode prog_13_method_43_code 111 = .ok (.iload_n 1, 1) := by decide +kernel
theorem d_Mo_split_112 : decode prog_13_method_43_code 112 = .ok (.invokevirtual 229, 3) := by decide +kernel
theorem d_Mo_split_115 : decode prog_13_method_43_code 115 = .ok (.iinc 1 1, 3) := by decide +kernel
theorem d_Mo_split_118 : decode prog_13_method_43_code 118 = .ok (.goto (-16), 3) := by decide +kernel
theorem d_Mo_split_121 : decode prog_13_method_43_code 121 = .ok (.aload_n 0, 1) := by decide +kernel
theorem d_Mo_split_122 : decode prog_13_method_43_code 122 = .ok (.bipush 112, 2) := by decide +kernel
theorem d_Mo_split_124 : decode prog_13_method_43_code 124 = .ok (.bipush 110, 2) := by decide +kernel
theorem d_Mo_split_126 : decode prog_13_method_43_code 126 = .ok (.invokevirtual 204, 3) := by decide +kernel
theorem d_Mo_split_129 : decode prog_13_method_43_code 129 = .ok (.aload_n 0, 1) := by decide +kernel
theorem d_Mo_split_130 : decode prog_13_method_43_code 130 = .ok (.iconst 1, 1) := by decide +kernel
theorem d_Mo_split_131 : decode prog_13_method_43_code 131 = .ok (.putfield 159, 3) := by decide +kernel
theorem d_Mo_split_134 : decode prog_13_method_43_code 134 = .ok (.iconst 1, 1) := by decide +kernel
theorem d_Mo_split_135 : decode prog_13_method_43_code 135 = .ok (.ireturn, 1) := by decide +kernel
theorem d_Mo_splitOne_0 : decode prog_13_method_44_code 0 = .ok (.aload_n 0, 1) := by decide +kernel
theorem d_Mo_splitOne_1 : decode prog_13_method_44_code 1 = .ok (.getfield 45, 3) := by decide +kernel
theorem d_Mo_splitOne_4 : decode prog_13_method_44_code 4 = .ok (.iload_n 1, 1) := by decide +kernel
theorem d_Mo_splitOne_5 : decode prog_13_method_44_code 5 = .ok (.laload, 1) := by decide +kernel
theorem d_Mo_splitOne_6 : decode prog_13_method_44_code 6 = .ok (.lstore_n 2, 1) := by decide +kernel
theorem d_Mo_splitOne_7 : decode prog_13_method_44_code 7 = .ok (.aload_n 0, 1) := by decide +kernel
theorem d_Mo_splitOne_8 : decode prog_13_method_44_code 8 = .ok (.getfield 48, 3) := by decide +kernel
theorem d_Mo_splitOne_11 : decode prog_13_method_44_code 11 = .ok (.iload_n 1, 1) := by decide +kernel
theorem d_Mo_splitOne_12 : decode prog_13_method_44_code 12 = .ok (.laload, 1) := by decide +kernel
theorem d_Mo_splitOne_13 : decode prog_13_method_44_code 13 = .ok (.lstore 4, 2) := by decide +kernel
theorem d_Mo_splitOne_15 : decode prog_13_method_44_code 15 = .ok (.iconst 0, 1) := by decide +kernel
theorem d_Mo_splitOne_16 : decode prog_13_method_44_code 16 = .ok (.istore 6, 2) := by decide +kernel
theorem d_Mo_splitOne_18 : decode prog_13_method_44_code 18 = .ok (.aload_n 0, 1) := by decide +kernel
theorem d_Mo_splitOne_19 : decode prog_13_method_44_code 19 = .ok (.getfield 25, 3) := by decide +kernel
theorem d_Mo_splitOne_22 : decode prog_13_method_44_code 22 = .ok (.iload 6, 2) := by decide +kernel
theorem d_Mo_splitOne_24 : decode prog_13_method_44_code 24 = .ok (.iaload, 1) := by decide +kernel
theorem d_Mo_splitOne_25 : decode prog_13_method_44_code 25 = .ok (.i2l, 1) := by decide +kernel
theorem d_Mo_splitOne_26 : decode prog_13_method_44_code 26 = .ok (.lload 4, 2) := by decide +kernel
theorem d_Mo_splitOne_28 : decode prog_13_method_44_code 28 = .ok (.lmul, 1) := by decide +kernel
theorem d_Mo_splitOne_29 : decode prog_13_method_44_code 29 = .ok (.lload_n 2, 1) := by decide +kernel
theorem d_Mo_splitOne_30 : decode prog_13_method_44_code 30 = .ok (.lcmp, 1) := by decide +kernel
theorem d_Mo_splitOne_31 : decode prog_13_method_44_code 31 = .ok (.ifCond .ge 9, 3) := by decide +kernel
theorem d_Mo_splitOne_34 : decode prog_13_method_44_code 34 = .ok (.iinc 6 1, 3) := by decide +kernel
theorem d_Mo_splitOne_37 : decode prog_13_method_44_code 37 = .ok (.goto (-19), 3) := by decide +kernel
theorem d_Mo_splitOne_40 : decode prog_13_method_44_code 40 = .ok (.aload_n 0, 1) := by decide +kernel
theorem d_Mo_splitOne_41 : decode prog_13_method_44_code 41 = .ok (.getfield 81, 3) := by decide +kernel
theorem d_Mo_splitOne_44 : decode prog_13_method_44_code 44 = .ok (.iload_n 1, 1) := by decide +kernel
theorem d_Mo_splitOne_45 : decode prog_13_method_44_code 45 = .ok (.iload 6, 2) := by decide +kernel
theorem d_Mo_splitOne_47 : decode prog_13_method_44_code 47 = .ok (.iastore, 1) := by decide +kernel
theorem d_Mo_splitOne_48 : decode prog_13_method_44_code 48 = .ok (.aload_n 0, 1) := by decide +kernel
theorem d_Mo_splitOne_49 : decode prog_13_method_44_code 49 = .ok (.getfield 25, 3) := by decide +kernel
theorem d_Mo_splitOne_52 : decode prog_13_method_44_code 52 = .ok (.iload 6, 2) := by decide +kernel
theorem d_Mo_splitOne_54 : decode prog_13_method_44_code 54 = .ok (.iaload, 1) := by decide +kernel
theorem d_Mo_splitOne_55 : decode prog_13_method_44_code 55 = .ok (.i2l, 1) := by decide +kernel
theorem d_Mo_splitOne_56 : decode prog_13_method_44_code 56 = .ok (.lload 4, 2) := by decide +kernel
theorem d_Mo_splitOne_58 : decode prog_13_method_44_code 58 = .ok (.lmul, 1) := by decide +kernel
theorem d_Mo_splitOne_59 : decode prog_13_method_44_code 59 = .ok (.lload_n 2, 1) := by decide +kernel
theorem d_Mo_splitOne_60 : decode prog_13_method_44_code 60 = .ok (.lcmp, 1) := by decide +kernel
theorem d_Mo_splitOne_61 : decode prog_13_method_44_code 61 = .ok (.ifCond .ne 43, 3) := by decide +kernel
theorem d_Mo_splitOne_64 : decode prog_13_method_44_code 64 = .ok (.aload_n 0, 1) := by decide +kernel
theorem d_Mo_splitOne_65 : decode prog_13_method_44_code 65 = .ok (.getfield 78, 3) := by decide +kernel
theorem d_Mo_splitOne_68 : decode prog_13_method_44_code 68 = .ok (.iload_n 1, 1) := by decide +kernel
theorem d_Mo_splitOne_69 : decode prog_13_method_44_code 69 = .ok (.iload 6, 2) := by decide +kernel
theorem d_Mo_splitOne_71 : decode prog_13_method_44_code 71 = .ok (.iastore, 1) := by decide +kernel
theorem d_Mo_splitOne_72 : decode prog_13_method_44_code 72 = .ok (.aload_n 0, 1) := by decide +kernel
theorem d_Mo_splitOne_73 : decode prog_13_method_44_code 73 = .ok (.bipush 84, 2) := by decide +kernel
theorem d_Mo_splitOne_75 : decode prog_13_method_44_code 75 = .ok (.iload_n 1, 1) := by decide +kernel
theorem d_Mo_splitOne_76 : decode prog_13_method_44_code 76 = .ok (.iadd, 1) := by decide +kernel
theorem d_Mo_splitOne_77 : decode prog_13_method_44_code 77 = .ok (.aload_n 0, 1) := by decide +kernel
theorem d_Mo_splitOne_78 : decode prog_13_method_44_code 78 = .ok (.getfield 22, 3) := by decide +kernel
theorem d_Mo_splitOne_81 : decode prog_13_method_44_code 81 = .ok (.iload_n 1, 1) := by decide +kernel
theorem d_Mo_splitOne_82 : decode prog_13_method_44_code 82 = .ok (.iaload, 1) := by decide +kernel
theorem d_Mo_splitOne_83 : decode prog_13_method_44_code 83 = .ok (.i2l, 1) := by decide +kernel
theorem d_Mo_splitOne_84 : decode prog_13_method_44_code 84 = .ok (.lload 4, 2) := by decide +kernel
theorem d_Mo_splitOne_86 : decode prog_13_method_44_code 86 = .ok (.lmul, 1) := by decide +kernel
theorem d_Mo_splitOne_87 : decode prog_13_method_44_code 87 = .ok (.lload_n 2, 1) := by decide +kernel
theorem d_Mo_splitOne_88 : decode prog_13_method_44_code 88 = .ok (.invokevirtual 180, 3) := by decide +kernel
theorem d_Mo_splitOne_91 : decode prog_13_method_44_code 91 = .ok (.aload_n 0, 1) := by decide +kernel
theorem d_Mo_splitOne_92 : decode prog_13_method_44_code 92 = .ok (.bipush 96, 2) := by decide +kernel
theorem d_Mo_splitOne_94 : decode prog_13_method_44_code 94 = .ok (.iload_n 1, 1) := by decide +kernel
theorem d_Mo_splitOne_95 : decode prog_13_method_44_code 95 = .ok (.iadd, 1) := by decide +kernel
theorem d_Mo_splitOne_96 : decode prog_13_method_44_code 96 = .ok (.lconst 0, 1) := by decide +kernel
theorem d_Mo_splitOne_97 : decode prog_13_method_44_code 97 = .ok (.lconst 1, 1) := by decide +kernel
theorem d_Mo_splitOne_98 : decode prog_13_method_44_code 98 = .ok (.invokevirtual 180, 3) := by decide +kernel
theorem d_Mo_splitOne_101 : decode prog_13_method_44_code 101 = .ok (.goto 104, 3) := by decide +kernel
theorem d_Mo_splitOne_104 : decode prog_13_method_44_code 104 = .ok (.aload_n 0, 1) := by decide +kernel
theorem d_Mo_splitOne_105 : decode prog_13_method_44_code 105 = .ok (.getfield 78, 3) := by decide +kernel
theorem d_Mo_splitOne_108 : decode prog_13_method_44_code 108 = .ok (.iload_n 1, 1) := by decide +kernel
theorem d_Mo_splitOne_109 : decode prog_13_method_44_code 109 = .ok (.iload 6, 2) := by decide +kernel
theorem d_Mo_splitOne_111 : decode prog_13_method_44_code 111 = .ok (.iconst 1, 1) := by decide +kernel
theorem d_Mo_splitOne_112 : decode prog_13_method_44_code 112 = .ok (.isub, 1) := by decide +kernel
theorem d_Mo_splitOne_113 : decode prog_13_method_44_code 113 = .ok (.iastore, 1) := by decide +kernel
theorem d_Mo_splitOne_114 : decode prog_13_method_44_code 114 = .ok (.iload 6, 2) := by decide +kernel
theorem d_Mo_splitOne_116 : decode prog_13_method_44_code 116 = .ok (.ifCond .le 16, 3) := by decide +kernel
theorem d_Mo_splitOne_119 : decode prog_13_method_44_code 119 = .ok (.aload_n 0, 1) := by decide +kernel
theorem d_Mo_splitOne_120 : decode prog_13_method_44_code 120 = .ok (.getfield 25, 3) := by decide +kernel
theorem d_Mo_splitOne_123 : decode prog_13_method_44_code 123 = .ok (.iload 6, 2) := by decide +kernel
theorem d_Mo_splitOne_125 : decode prog_13_method_44_code 125 = .ok (.iconst 1, 1) := by decide +kernel
theorem d_Mo_splitOne_126 : decode prog_13_method_44_code 126 = .ok (.isub, 1) := by decide +kernel
theorem d_Mo_splitOne_127 : decode prog_13_method_44_code 127 = .ok (.iaload, 1) := by decide +kernel
theorem d_Mo_splitOne_128 : decode prog_13_method_44_code 128 = .ok (.i2l, 1) := by decide +kernel
theorem d_Mo_splitOne_129 : decode prog_13_method_44_code 129 = .ok (.goto 4, 3) := by decide +kernel
theorem d_Mo_splitOne_132 : decode prog_13_method_44_code 132 = .ok (.lconst 0, 1) := by decide +kernel
theorem d_Mo_splitOne_133 : decode prog_13_method_44_code 133 = .ok (.lstore 7, 2) := by decide +kernel
theorem d_Mo_splitOne_135 : decode prog_13_method_44_code 135 = .ok (.aload_n 0, 1) := by decide +kernel
theorem d_Mo_splitOne_136 : decode prog_13_method_44_code 136 = .ok (.getfield 25, 3) := by decide +kernel
theorem d_Mo_splitOne_139 : decode prog_13_method_44_code 139 = .ok (.iload 6, 2) := by decide +kernel
theorem d_Mo_splitOne_141 : decode prog_13_method_44_code 141 = .ok (.iaload, 1) := by decide +kernel
theorem d_Mo_splitOne_142 : decode prog_13_method_44_code 142 = .ok (.i2l, 1) := by decide +kernel
theorem d_Mo_splitOne_143 : decode prog_13_method_44_code 143 = .ok (.lstore 9, 2) := by decide +kernel
theorem d_Mo_splitOne_145 : decode prog_13_method_44_code 145 = .ok (.aload_n 0, 1) := by decide +kernel
theorem d_Mo_splitOne_146 : decode prog_13_method_44_code 146 = .ok (.bipush 84, 2) := by decide +kernel
theorem d_Mo_splitOne_148 : decode prog_13_method_44_code 148 = .ok (.iload_n 1, 1) := by decide +kernel
theorem d_Mo_splitOne_149 : decode prog_13_method_44_code 149 = .ok (.iadd, 1) := by decide +kernel
theorem d_Mo_splitOne_150 : decode prog_13_method_44_code 150 = .ok (.aload_n 0, 1) := by decide +kernel
theorem d_Mo_splitOne_151 : decode prog_13_method_44_code 151 = .ok (.getfield 22, 3) := by decide +kernel
theorem d_Mo_splitOne_154 : decode prog_13_method_44_code 154 = .ok (.iload_n 1, 1) := by decide +kernel
theorem d_Mo_splitOne_155 : decode prog_13_method_44_code 155 = .ok (.iaload, 1) := by decide +kernel
theorem d_Mo_splitOne_156 : decode prog_13_method_44_code 156 = .ok (.i2l, 1) := by decide +kernel
theorem d_Mo_splitOne_157 : decode prog_13_method_44_code 157 = .ok (.lload 9, 2) := by decide +kernel
theorem d_Mo_splitOne_159 : decode prog_13_method_44_code 159 = .ok (.lload 4, 2) := by decide +kernel
theorem d_Mo_splitOne_161 : decode prog_13_method_44_code 161 = .ok (.lmul, 1) := by decide +kernel
theorem d_Mo_splitOne_162 : decode prog_13_method_44_code 162 = .ok (.lload_n 2, 1) := by decide +kernel
theorem d_Mo_splitOne_163 : decode prog_13_method_44_code 163 = .ok (.lsub, 1) := by decide +kernel
theorem d_Mo_splitOne_164 : decode prog_13_method_44_code 164 = .ok (.lmul, 1) := by decide +kernel
theorem d_Mo_splitOne_165 : decode prog_13_method_44_code 165 = .ok (.lload_n 2, 1) := by decide +kernel
theorem d_Mo_splitOne_166 : decode prog_13_method_44_code 166 = .ok (.lload 9, 2) := by decide +kernel
theorem d_Mo_splitOne_168 : decode prog_13_method_44_code 168 = .ok (.lload 7, 2) := by decide +kernel
theorem d_Mo_splitOne_170 : decode prog_13_method_44_code 170 = .ok (.lsub, 1) := by decide +kernel
theorem d_Mo_splitOne_171 : decode prog_13_method_44_code 171 = .ok (.lmul, 1) := by decide +kernel
theorem d_Mo_splitOne_172 : decode prog_13_method_44_code 172 = .ok (.invokevirtual 180, 3) := by decide +kernel
theorem d_Mo_splitOne_175 : decode prog_13_method_44_code 175 = .ok (.aload_n 0, 1) := by decide +kernel
theorem d_Mo_splitOne_176 : decode prog_13_method_44_code 176 = .ok (.bipush 96, 2) := by decide +kernel
theorem d_Mo_splitOne_178 : decode prog_13_method_44_code 178 = .ok (.iload_n 1, 1) := by decide +kernel
theorem d_Mo_splitOne_179 : decode prog_13_method_44_code 179 = .ok (.iadd, 1) := by decide +kernel
theorem d_Mo_splitOne_180 : decode prog_13_method_44_code 180 = .ok (.aload_n 0, 1) := by decide +kernel
theorem d_Mo_splitOne_181 : decode prog_13_method_44_code 181 = .ok (.getfield 22, 3) := by decide +kernel
theorem d_Mo_splitOne_184 : decode prog_13_method_44_code 184 = .ok (.iload_n 1, 1) := by decide +kernel
theorem d_Mo_splitOne_185 : decode prog_13_method_44_code 185 = .ok (.iaload, 1) := by decide +kernel
theorem d_Mo_splitOne_186 : decode prog_13_method_44_code 186 = .ok (.i2l, 1) := by decide +kernel
theorem d_Mo_splitOne_187 : decode prog_13_method_44_code 187 = .ok (.lload_n 2, 1) := by decide +kernel
theorem d_Mo_splitOne_188 : decode prog_13_method_44_code 188 = .ok (.lload 7, 2) := by decide +kernel
theorem d_Mo_splitOne_190 : decode prog_13_method_44_code 190 = .ok (.lload 4, 2) := by decide +kernel
theorem d_Mo_splitOne_192 : decode prog_13_method_44_code 192 = .ok (.lmul, 1) := by decide +kernel
theorem d_Mo_splitOne_193 : decode prog_13_method_44_code 193 = .ok (.lsub, 1) := by decide +kernel
theorem d_Mo_splitOne_194 : decode prog_13_method_44_code 194 = .ok (.lmul, 1) := by decide +kernel
theorem d_Mo_splitOne_195 : decode prog_13_method_44_code 195 = .ok (.lload_n 2, 1) := by decide +kernel
theorem d_Mo_splitOne_196 : decode prog_13_method_44_code 196 = .ok (.lload 9, 2) := by decide +kernel
theorem d_Mo_splitOne_198 : decode prog_13_method_44_code 198 = .ok (.lload 7, 2) := by decide +kernel
theorem d_Mo_splitOne_200 : decode prog_13_method_44_code 200 = .ok (.lsub, 1) := by decide +kernel
theorem d_Mo_splitOne_201 : decode prog_13_method_44_code 201 = .ok (.lmul, 1) := by decide +kernel
theorem d_Mo_splitOne_202 : decode prog_13_method_44_code 202 = .ok (.invokevirtual 180, 3) := by decide +kernel
theorem d_Mo_splitOne_205 : decode prog_13_method_44_code 205 = .ok (.aload_n 0, 1) := by decide +kernel
theorem d_Mo_splitOne_206 : decode prog_13_method_44_code 206 = .ok (.bipush 84, 2) := by decide +kernel
theorem d_Mo_splitOne_208 : decode prog_13_method_44_code 208 = .ok (.iload_n 1, 1) := by decide +kernel
theorem d_Mo_splitOne_209 : decode prog_13_method_44_code 209 = .ok (.iadd, 1) := by decide +kernel
theorem d_Mo_splitOne_210 : decode prog_13_method_44_code 210 = .ok (.aload_n 0, 1) := by decide +kernel
theorem d_Mo_splitOne_211 : decode prog_13_method_44_code 211 = .ok (.getfield 78, 3) := by decide +kernel
theorem d_Mo_splitOne_214 : decode prog_13_method_44_code 214 = .ok (.iload_n 1, 1) := by decide +kernel
theorem d_Mo_splitOne_215 : decode prog_13_method_44_code 215 = .ok (.iaload, 1) := by decide +kernel
theorem d_Mo_splitOne_216 : decode prog_13_method_44_code 216 = .ok (.ifCond .ge 7, 3) := by decide +kernel
theorem d_Mo_splitOne_219 : decode prog_13_method_44_code 219 = .ok (.iconst 0, 1) := by decide +kernel
theorem d_Mo_splitOne_220 : decode prog_13_method_44_code 220 = .ok (.goto 14, 3) := by decide +kernel
theorem d_Mo_splitOne_223 : decode prog_13_method_44_code 223 = .ok (.aload_n 0, 1) := by decide +kernel
theorem d_Mo_splitOne_224 : decode prog_13_method_44_code 224 = .ok (.getfield 28, 3) := by decide +kernel
theorem d_Mo_splitOne_227 : decode prog_13_method_44_code 227 = .ok (.aload_n 0, 1) := by decide +kernel
theorem d_Mo_splitOne_228 : decode prog_13_method_44_code 228 = .ok (.getfield 78, 3) := by decide +kernel
theorem d_Mo_splitOne_231 : decode prog_13_method_44_code 231 = .ok (.iload_n 1, 1) := by decide +kernel
theorem d_Mo_splitOne_232 : decode prog_13_method_44_code 232 = .ok (.iaload, 1) := by decide +kernel
theorem d_Mo_splitOne_233 : decode prog_13_method_44_code 233 = .ok (.iaload, 1) := by decide +kernel
theorem d_Mo_splitOne_234 : decode prog_13_method_44_code 234 = .ok (.invokevirtual 232, 3) := by decide +kernel
theorem d_Mo_splitOne_237 : decode prog_13_method_44_code 237 = .ok (.aload_n 0, 1) := by decide +kernel
theorem d_Mo_splitOne_238 : decode prog_13_method_44_code 238 = .ok (.bipush 96, 2) := by decide +kernel
theorem d_Mo_splitOne_240 : decode prog_13_method_44_code 240 = .ok (.iload_n 1, 1) := by decide +kernel
theorem d_Mo_splitOne_241 : decode prog_13_method_44_code 241 = .ok (.iadd, 1) := by decide +kernel
theorem d_Mo_splitOne_242 : decode prog_13_method_44_code 242 = .ok (.aload_n 0, 1) := by decide +kernel
theorem d_Mo_splitOne_243 : decode prog_13_method_44_code 243 = .ok (.getfield 28, 3) := by decide +kernel
theorem d_Mo_splitOne_246 : decode prog_13_method_44_code 246 = .ok (.iload 6, 2) := by decide +kernel
theorem d_Mo_splitOne_248 : decode prog_13_method_44_code 248 = .ok (.iaload, 1) := by decide +kernel
theorem d_Mo_splitOne_249 : decode prog_13_method_44_code 249 = .ok (.invokevirtual 232, 3) := by decide +kernel
theorem d_Mo_splitOne_252 : decode prog_13_method_44_code 252 = .ok (.return_, 1) := by decide +kernel
theorem d_Mo_pay_0 : decode prog_13_method_45_code 0 = .ok (.aload_n 0, 1) := by decide +kernel
theorem d_Mo_pay_1 : decode prog_13_method_45_code 1 = .ok (.iload_n 1, 1) := by decide +kernel
theorem d_Mo_pay_2 : decode prog_13_method_45_code 2 = .ok (.bipush 111, 2) := by decide +kernel
theorem d_Mo_pay_4 : decode prog_13_method_45_code 4 = .ok (.invokevirtual 204, 3) := by decide +kernel
theorem d_Mo_pay_7 : decode prog_13_method_45_code 7 = .ok (.aload_n 0, 1) := by decide +kernel
theorem d_Mo_pay_8 : decode prog_13_method_45_code 8 = .ok (.sipush 222, 3) := by decide +kernel
theorem d_Mo_pay_11 : decode prog_13_method_45_code 11 = .ok (.iload_n 2, 1) := by decide +kernel
theorem d_Mo_pay_12 : decode prog_13_method_45_code 12 = .ok (.invokevirtual 124, 3) := by decide +kernel
theorem d_Mo_pay_15 : decode prog_13_method_45_code 15 = .ok (.aload_n 0, 1) := by decide +kernel
theorem d_Mo_pay_16 : decode prog_13_method_45_code 16 = .ok (.bipush 111, 2) := by decide +kernel
theorem d_Mo_pay_18 : decode prog_13_method_45_code 18 = .ok (.invokevirtual 137, 3) := by decide +kernel
theorem d_Mo_pay_21 : decode prog_13_method_45_code 21 = .ok (.aload_n 0, 1) := by decide +kernel
theorem d_Mo_pay_22 : decode prog_13_method_45_code 22 = .ok (.invokevirtual 146, 3) := by decide +kernel
theorem d_Mo_pay_25 : decode prog_13_method_45_code 25 = .ok (.return_, 1) := by decide +kernel
theorem d_Mo_levelOf_0 : decode prog_13_method_46_code 0 = .ok (.aload_n 0, 1) := by decide +kernel
theorem d_Mo_levelOf_1 : decode prog_13_method_46_code 1 = .ok (.iconst 0, 1) := by decide +kernel
theorem d_Mo_levelOf_2 : decode prog_13_method_46_code 2 = .ok (.putfield 91, 3) := by decide +kernel
theorem d_Mo_levelOf_5 : decode prog_13_method_46_code 5 = .ok (.aload_n 0, 1) := by decide +kernel
theorem d_Mo_levelOf_6 : decode prog_13_method_46_code 6 = .ok (.getfield 159, 3) := by decide +kernel
theorem d_Mo_levelOf_9 : decode prog_13_method_46_code 9 = .ok (.ifCond .eq 26, 3) := by decide +kernel
theorem d_Mo_levelOf_12 : decode prog_13_method_46_code 12 = .ok (.iload_n 1, 1) := by decide +kernel
theorem d_Mo_levelOf_13 : decode prog_13_method_46_code 13 = .ok (.iconst 0, 1) := by decide +kernel
theorem d_Mo_levelOf_14 : decode prog_13_method_46_code 14 = .ok (.aload_n 0, 1) := by decide +kernel
theorem d_Mo_levelOf_15 : decode prog_13_method_46_code 15 = .ok (.getfield 153, 3) := by decide +kernel
theorem d_Mo_levelOf_18 : decode prog_13_method_46_code 18 = .ok (.iconst 1, 1) := by decide +kernel
theorem d_Mo_levelOf_19 : decode prog_13_method_46_code 19 = .ok (.isub, 1) := by decide +kernel
theorem d_Mo_levelOf_20 : decode prog_13_method_46_code 20 = .ok (.invokestatic 149, 3) := by decide +kernel
theorem d_Mo_levelOf_23 : decode prog_13_method_46_code 23 = .ok (.ifCond .eq 12, 3) := by decide +kernel
theorem d_Mo_levelOf_26 : decode prog_13_method_46_code 26 = .ok (.iload_n 2, 1) := by decide +kernel
theorem d_Mo_levelOf_27 : decode prog_13_method_46_code 27 = .ok (.iconst 0, 1) := by decide +kernel
theorem d_Mo_levelOf_28 : decode prog_13_method_46_code 28 = .ok (.iconst 1, 1) := by decide +kernel
theorem d_Mo_levelOf_29 : decode prog_13_method_46_code 29 = .ok (.invokestatic 149, 3) := by decide +kernel
theorem d_Mo_levelOf_32 : decode prog_13_method_46_code 32 = .ok (.ifCond .ne 6, 3) := by decide +kernel
theorem d_Mo_levelOf_35 : decode prog_13_method_46_code 35 = .ok (.bipush (-2), 2) := by decide +kernel
theorem d_Mo_levelOf_37 : decode prog_13_method_46_code 37 = .ok (.ireturn, 1) := by decide +kernel
theorem d_Mo_levelOf_38 : decode prog_13_method_46_code 38 = .ok (.iload_n 2, 1) := by decide +kernel
theorem d_Mo_levelOf_39 : decode prog_13_method_46_code 39 = .ok (.ifCond .ne 12, 3) := by decide +kernel
theorem d_Mo_levelOf_42 : decode prog_13_method_46_code 42 = .ok (.aload_n 0, 1) := by decide +kernel
theorem d_Mo_levelOf_43 : decode prog_13_method_46_code 43 = .ok (.getfield 78, 3) := by decide +kernel
theorem d_Mo_levelOf_46 : decode prog_13_method_46_code 46 = .ok (.iload_n 1, 1) := by decide +kernel
theorem d_Mo_levelOf_47 : decode prog_13_method_46_code 47 = .ok (.iaload, 1) := by decide +kernel
theorem d_Mo_levelOf_48 : decode prog_13_method_46_code 48 = .ok (.goto 9, 3) := by decide +kernel
theorem d_Mo_levelOf_51 : decode prog_13_method_46_code 51 = .ok (.aload_n 0, 1) := by decide +kernel
theorem d_Mo_levelOf_52 : decode prog_13_method_46_code 52 = .ok (.getfield 81, 3) := by decide +kernel
theorem d_Mo_levelOf_55 : decode prog_13_method_46_code 55 = .ok (.iload_n 1, 1) := by decide +kernel
theorem d_Mo_levelOf_56 : decode prog_13_method_46_code 56 = .ok (.iaload, 1) := by decide +kernel
theorem d_Mo_levelOf_57 : decode prog_13_method_46_code 57 = .ok (.ireturn, 1) := by decide +kernel
theorem d_Mo_step_0 : decode prog_13_method_47_code 0 = .ok (.aload_n 0, 1) := by decide +kernel
theorem d_Mo_step_1 : decode prog_13_method_47_code 1 = .ok (.iload_n 1, 1) := by decide +kernel
theorem d_Mo_step_2 : decode prog_13_method_47_code 2 = .ok (.iconst 0, 1) := by decide +kernel
theorem d_Mo_step_3 : decode prog_13_method_47_code 3 = .ok (.iconst 1, 1) := by decide +kernel
theorem d_Mo_step_4 : decode prog_13_method_47_code 4 = .ok (.invokestatic 149, 3) := by decide +kernel
theorem d_Mo_step_7 : decode prog_13_method_47_code 7 = .ok (.ifCond .eq 12, 3) := by decide +kernel
theorem d_Mo_step_10 : decode prog_13_method_47_code 10 = .ok (.iload_n 3, 1) := by decide +kernel
theorem d_Mo_step_11 : decode prog_13_method_47_code 11 = .ok (.iconst 0, 1) := by decide +kernel
theorem d_Mo_step_12 : decode prog_13_method_47_code 12 = .ok (.iconst 1, 1) := by decide +kernel
theorem d_Mo_step_13 : decode prog_13_method_47_code 13 = .ok (.invokestatic 149, 3) := by decide +kernel
theorem d_Mo_step_16 : decode prog_13_method_47_code 16 = .ok (.ifCond .ne 7, 3) := by decide +kernel
theorem d_Mo_step_19 : decode prog_13_method_47_code 19 = .ok (.iconst 2, 1) := by decide +kernel
theorem d_Mo_step_20 : decode prog_13_method_47_code 20 = .ok (.goto 62, 3) := by decide +kernel
theorem d_Mo_step_23 : decode prog_13_method_47_code 23 = .ok (.iload_n 1, 1) := by decide +kernel
theorem d_Mo_step_24 : decode prog_13_method_47_code 24 = .ok (.ifCond .ne 32, 3) := by decide +kernel
theorem d_Mo_step_27 : decode prog_13_method_47_code 27 = .ok (.aload_n 0, 1) := by decide +kernel
theorem d_Mo_step_28 : decode prog_13_method_47_code 28 = .ok (.getfield 87, 3) := by decide +kernel
theorem d_Mo_step_31 : decode prog_13_method_47_code 31 = .ok (.ifCond .eq 21, 3) := by decide +kernel
theorem d_Mo_step_34 : decode prog_13_method_47_code 34 = .ok (.iload_n 2, 1) := by decide +kernel
theorem d_Mo_step_35 : decode prog_13_method_47_code 35 = .ok (.iconst 0, 1) := by decide +kernel
theorem d_Mo_step_36 : decode prog_13_method_47_code 36 = .ok (.aload_n 0, 1) := by decide +kernel
theorem d_Mo_step_37 : decode prog_13_method_47_code 37 = .ok (.getfield 184, 3) := by decide +kernel
theorem d_Mo_step_40 : decode prog_13_method_47_code 40 = .ok (.iconst 1, 1) := by decide +kernel
theorem d_Mo_step_41 : decode prog_13_method_47_code 41 = .ok (.isub, 1) := by decide +kernel
theorem d_Mo_step_42 : decode prog_13_method_47_code 42 = .ok (.invokestatic 149, 3) := by decide +kernel
theorem d_Mo_step_45 : decode prog_13_method_47_code 45 = .ok (.ifCond .eq 7, 3) := by decide +kernel
theorem d_Mo_step_48 : decode prog_13_method_47_code 48 = .ok (.iconst 0, 1) := by decide +kernel
theorem d_Mo_step_49 : decode prog_13_method_47_code 49 = .ok (.goto 33, 3) := by decide +kernel
theorem d_Mo_step_52 : decode prog_13_method_47_code 52 = .ok (.iconst 1, 1) := by decide +kernel
theorem d_Mo_step_53 : decode prog_13_method_47_code 53 = .ok (.goto 29, 3) := by decide +kernel
theorem d_Mo_step_56 : decode prog_13_method_47_code 56 = .ok (.aload_n 0, 1) := by decide +kernel
theorem d_Mo_step_57 : decode prog_13_method_47_code 57 = .ok (.getfield 156, 3) := by decide +kernel
theorem d_Mo_step_60 : decode prog_13_method_47_code 60 = .ok (.ifCond .eq 21, 3) := by decide +kernel
theorem d_Mo_step_63 : decode prog_13_method_47_code 63 = .ok (.iload_n 2, 1) := by decide +kernel
theorem d_Mo_step_64 : decode prog_13_method_47_code 64 = .ok (.iconst 0, 1) := by decide +kernel
theorem d_Mo_step_65 : decode prog_13_method_47_code 65 = .ok (.aload_n 0, 1) := by decide +kernel
theorem d_Mo_step_66 : decode prog_13_method_47_code 66 = .ok (.getfield 213, 3) := by decide +kernel
theorem d_Mo_step_69 : decode prog_13_method_47_code 69 = .ok (.iconst 1, 1) := by decide +kernel
theorem d_Mo_step_70 : decode prog_13_method_47_code 70 = .ok (.isub, 1) := by decide +kernel
theorem d_Mo_step_71 : decode prog_13_method_47_code 71 = .ok (.invokestatic 149, 3) := by decide +kernel
theorem d_Mo_step_74 : decode prog_13_method_47_code 74 = .ok (.ifCond .eq 7, 3) := by decide +kernel
theorem d_Mo_step_77 : decode prog_13_method_47_code 77 = .ok (.iconst 0, 1) := by decide +kernel
theorem d_Mo_step_78 : decode prog_13_method_47_code 78 = .ok (.goto 4, 3) := by decide +kernel
theorem d_Mo_step_81 : decode prog_13_method_47_code 81 = .ok (.iconst 1, 1) := by decide +kernel
theorem d_Mo_step_82 : decode prog_13_method_47_code 82 = .ok (.putfield 91, 3) := by decide +kernel
theorem d_Mo_step_85 : decode prog_13_method_47_code 85 = .ok (.aload_n 0, 1) := by decide +kernel
theorem d_Mo_step_86 : decode prog_13_method_47_code 86 = .ok (.getfield 91, 3) := by decide +kernel
theorem d_Mo_step_89 : decode prog_13_method_47_code 89 = .ok (.ifCond .le 5, 3) := by decide +kernel
theorem d_Mo_step_92 : decode prog_13_method_47_code 92 = .ok (.iconst 0, 1) := by decide +kernel
theorem d_Mo_step_93 : decode prog_13_method_47_code 93 = .ok (.ireturn, 1) := by decide +kernel
theorem d_Mo_step_94 : decode prog_13_method_47_code 94 = .ok (.iload_n 1, 1) := by decide +kernel
theorem d_Mo_step_95 : decode prog_13_method_47_code 95 = .ok (.ifCond .ne 23, 3) := by decide +kernel
theorem d_Mo_step_98 : decode prog_13_method_47_code 98 = .ok (.iload_n 3, 1) := by decide +kernel
theorem d_Mo_step_99 : decode prog_13_method_47_code 99 = .ok (.ifCond .ne 12, 3) := by decide +kernel
theorem d_Mo_step_102 : decode prog_13_method_47_code 102 = .ok (.aload_n 0, 1) := by decide +kernel
theorem d_Mo_step_103 : decode prog_13_method_47_code 103 = .ok (.getfield 54, 3) := by decide +kernel
theorem d_Mo_step_106 : decode prog_13_method_47_code 106 = .ok (.iload_n 2, 1) := by decide +kernel
theorem d_Mo_step_107 : decode prog_13_method_47_code 107 = .ok (.iaload, 1) := by decide +kernel
theorem d_Mo_step_108 : decode prog_13_method_47_code 108 = .ok (.goto 9, 3) := by decide +kernel
theorem d_Mo_step_111 : decode prog_13_method_47_code 111 = .ok (.aload_n 0, 1) := by decide +kernel
theorem d_Mo_step_112 : decode prog_13_method_47_code 112 = .ok (.getfield 57, 3) := by decide +kernel
theorem d_Mo_step_115 : decode prog_13_method_47_code 115 = .ok (.iload_n 2, 1) := by decide +kernel
theorem d_Mo_step_116 : decode prog_13_method_47_code 116 = .ok (.iaload, 1) := by decide +kernel
theorem d_Mo_step_117 : decode prog_13_method_47_code 117 = .ok (.ireturn, 1) := by decide +kernel
theorem d_Mo_step_118 : decode prog_13_method_47_code 118 = .ok (.iload_n 3, 1) := by decide +kernel
theorem d_Mo_step_119 : decode prog_13_method_47_code 119 = .ok (.ifCond .ne 12, 3) := by decide +kernel
theorem d_Mo_step_122 : decode prog_13_method_47_code 122 = .ok (.aload_n 0, 1) := by decide +kernel
theorem d_Mo_step_123 : decode prog_13_method_47_code 123 = .ok (.getfield 69, 3) := by decide +kernel
theorem d_Mo_step_126 : decode prog_13_method_47_code 126 = .ok (.iload_n 2, 1) := by decide +kernel
theorem d_Mo_step_127 : decode prog_13_method_47_code 127 = .ok (.iaload, 1) := by decide +kernel
theorem d_Mo_step_128 : decode prog_13_method_47_code 128 = .ok (.goto 9, 3) := by decide +kernel
theorem d_Mo_step_131 : decode prog_13_method_47_code 131 = .ok (.aload_n 0, 1) := by decide +kernel
theorem d_Mo_step_132 : decode prog_13_method_47_code 132 = .ok (.getfield 72, 3) := by decide +kernel
theorem d_Mo_step_135 : decode prog_13_method_47_code 135 = .ok (.iload_n 2, 1) := by decide +kernel
theorem d_Mo_step_136 : decode prog_13_method_47_code 136 = .ok (.iaload, 1) := by decide +kernel
theorem d_Mo_step_137 : decode prog_13_method_47_code 137 = .ok (.ireturn, 1) := by decide +kernel
theorem d_Mo_fraction_0 : decode prog_13_method_48_code 0 = .ok (.iload_n 2, 1) := by decide +kernel
theorem d_Mo_fraction_1 : decode prog_13_method_48_code 1 = .ok (.iconst 0, 1) := by decide +kernel
theorem d_Mo_fraction_2 : decode prog_13_method_48_code 2 = .ok (.aload_n 0, 1) := by decide +kernel
theorem d_Mo_fraction_3 : decode prog_13_method_48_code 3 = .ok (.getfield 153, 3) := by decide +kernel
theorem d_Mo_fraction_6 : decode prog_13_method_48_code 6 = .ok (.iconst 1, 1) := by decide +kernel
theorem d_Mo_fraction_7 : decode prog_13_method_48_code 7 = .ok (.isub, 1) := by decide +kernel
theorem d_Mo_fraction_8 : decode prog_13_method_48_code 8 = .ok (.invokestatic 149, 3) := by decide +kernel
theorem d_Mo_fraction_11 : decode prog_13_method_48_code 11 = .ok (.istore_n 3, 1) := by decide +kernel
theorem d_Mo_fraction_12 : decode prog_13_method_48_code 12 = .ok (.iload_n 1, 1) := by decide +kernel
theorem d_Mo_fraction_13 : decode prog_13_method_48_code 13 = .ok (.tableswitch 268 0 9 #[55, 84, 114, 134, 154, 174, 194, 214, 232, 250], 55) := by decide +kernel
theorem d_Mo_fraction_68 : decode prog_13_method_48_code 68 = .ok (.aload_n 0, 1) := by decide +kernel
theorem d_Mo_fraction_69 : decode prog_13_method_48_code 69 = .ok (.getfield 87, 3) := by decide +kernel
theorem d_Mo_fraction_72 : decode prog_13_method_48_code 72 = .ok (.ifCond .eq 23, 3) := by decide +kernel
theorem d_Mo_fraction_75 : decode prog_13_method_48_code 75 = .ok (.iload_n 2, 1) := by decide +kernel
theorem d_Mo_fraction_76 : decode prog_13_method_48_code 76 = .ok (.iconst 0, 1) := by decide +kernel
theorem d_Mo_fraction_77 : decode prog_13_method_48_code 77 = .ok (.aload_n 0, 1) := by decide +kernel
theorem d_Mo_fraction_78 : decode prog_13_method_48_code 78 = .ok (.getfield 184, 3) := by decide +kernel
theorem d_Mo_fraction_81 : decode prog_13_method_48_code 81 = .ok (.iconst 1, 1) := by decide +kernel
theorem d_Mo_fraction_82 : decode prog_13_method_48_code 82 = .ok (.isub, 1) := by decide +kernel
theorem d_Mo_fraction_83 : decode prog_13_method_48_code 83 = .ok (.invokestatic 149, 3) := by decide +kernel
theorem d_Mo_fraction_86 : decode prog_13_method_48_code 86 = .ok (.ifCond .eq 9, 3) := by decide +kernel
theorem d_Mo_fraction_89 : decode prog_13_method_48_code 89 = .ok (.iconst 0, 1) := by decide +kernel
theorem d_Mo_fraction_90 : decode prog_13_method_48_code 90 = .ok (.iload_n 2, 1) := by decide +kernel
theorem d_Mo_fraction_91 : decode prog_13_method_48_code 91 = .ok (.iadd, 1) := by decide +kernel
theorem d_Mo_fraction_92 : decode prog_13_method_48_code 92 = .ok (.goto 4, 3) := by decide +kernel
theorem d_Mo_fraction_95 : decode prog_13_method_48_code 95 = .ok (.iconst (-1), 1) := by decide +kernel
theorem d_Mo_fraction_96 : decode prog_13_method_48_code 96 = .ok (.ireturn, 1) := by decide +kernel
theorem d_Mo_fraction_97 : decode prog_13_method_48_code 97 = .ok (.aload_n 0, 1) := by decide +kernel
theorem d_Mo_fraction_98 : decode prog_13_method_48_code 98 = .ok (.getfield 156, 3) := by decide +kernel
theorem d_Mo_fraction_101 : decode prog_13_method_48_code 101 = .ok (.ifCond .eq 24, 3) := by decide +kernel
theorem d_Mo_fraction_104 : decode prog_13_method_48_code 104 = .ok (.iload_n 2, 1) := by decide +kernel
theorem d_Mo_fraction_105 : decode prog_13_method_48_code 105 = .ok (.iconst 0, 1) := by decide +kernel
theorem d_Mo_fraction_106 : decode prog_13_method_48_code 106 = .ok (.aload_n 0, 1) := by decide +kernel
theorem d_Mo_fraction_107 : decode prog_13_method_48_code 107 = .ok (.getfield 213, 3) := by decide +kernel
theorem d_Mo_fraction_110 : decode prog_13_method_48_code 110 = .ok (.iconst 1, 1) := by decide +kernel
theorem d_Mo_fraction_111 : decode prog_13_method_48_code 111 = .ok (.isub, 1) := by decide +kernel
theorem d_Mo_fraction_112 : decode prog_13_method_48_code 112 = .ok (.invokestatic 149, 3) := by decide +kernel
theorem d_Mo_fraction_115 : decode prog_13_method_48_code 115 = .ok (.ifCond .eq 10, 3) := by decide +kernel
theorem d_Mo_fraction_118 : decode prog_13_method_48_code 118 = .ok (.bipush 24, 2) := by decide +kernel
theorem d_Mo_fraction_120 : decode prog_13_method_48_code 120 = .ok (.iload_n 2, 1) := by decide +kernel
theorem d_Mo_fraction_121 : decode prog_13_method_48_code 121 = .ok (.iadd, 1) := by decide +kernel
theorem d_Mo_fraction_122 : decode prog_13_method_48_code 122 = .ok (.goto 4, 3) := by decide +kernel
theorem d_Mo_fraction_125 : decode prog_13_method_48_code 125 = .ok (.iconst (-1), 1) := by decide +kernel
theorem d_Mo_fraction_126 : decode prog_13_method_48_code 126 = .ok (.ireturn, 1) := by decide +kernel
theorem d_Mo_fraction_127 : decode prog_13_method_48_code 127 = .ok (.aload_n 0, 1) := by decide +kernel
theorem d_Mo_fraction_128 : decode prog_13_method_48_code 128 = .ok (.getfield 87, 3) := by decide +kernel
theorem d_Mo_fraction_131 : decode prog_13_method_48_code 131 = .ok (.ifCond .eq 14, 3) := by decide +kernel
theorem d_Mo_fraction_134 : decode prog_13_method_48_code 134 = .ok (.iload_n 3, 1) := by decide +kernel
theorem d_Mo_fraction_135 : decode prog_13_method_48_code 135 = .ok (.ifCond .eq 10, 3) := by decide +kernel
theorem d_Mo_fraction_138 : decode prog_13_method_48_code 138 = .ok (.bipush 48, 2) := by decide +kernel
theorem d_Mo_fraction_140 : decode prog_13_method_48_code 140 = .ok (.iload_n 2, 1) := by decide +kernel
theorem d_Mo_fraction_141 : decode prog_13_method_48_code 141 = .ok (.iadd, 1) := by decide +kernel
theorem d_Mo_fraction_142 : decode prog_13_method_48_code 142 = .ok (.goto 4, 3) := by decide +kernel
theorem d_Mo_fraction_145 : decode prog_13_method_48_code 145 = .ok (.iconst (-1), 1) := by decide +kernel
theorem d_Mo_fraction_146 : decode prog_13_method_48_code 146 = .ok (.ireturn, 1) := by decide +kernel
theorem d_Mo_fraction_147 : decode prog_13_method_48_code 147 = .ok (.aload_n 0, 1) := by decide +kernel
theorem d_Mo_fraction_148 : decode prog_13_method_48_code 148 = .ok (.getfield 156, 3) := by decide +kernel
theorem d_Mo_fraction_151 : decode prog_13_method_48_code 151 = .ok (.ifCond .eq 14, 3) := by decide +kernel
theorem d_Mo_fraction_154 : decode prog_13_method_48_code 154 = .ok (.iload_n 3, 1) := by decide +kernel
theorem d_Mo_fraction_155 : decode prog_13_method_48_code 155 = .ok (.ifCond .eq 10, 3) := by decide +kernel
theorem d_Mo_fraction_158 : decode prog_13_method_48_code 158 = .ok (.bipush 60, 2) := by decide +kernel
theorem d_Mo_fraction_160 : decode prog_13_method_48_code 160 = .ok (.iload_n 2, 1) := by decide +kernel
theorem d_Mo_fraction_161 : decode prog_13_method_48_code 161 = .ok (.iadd, 1) := by decide +kernel
theorem d_Mo_fraction_162 : decode prog_13_method_48_code 162 = .ok (.goto 4, 3) := by decide +kernel
theorem d_Mo_fraction_165 : decode prog_13_method_48_code 165 = .ok (.iconst (-1), 1) := by decide +kernel
theorem d_Mo_fraction_166 : decode prog_13_method_48_code 166 = .ok (.ireturn, 1) := by decide +kernel
theorem d_Mo_fraction_167 : decode prog_13_method_48_code 167 = .ok (.aload_n 0, 1) := by decide +kernel
theorem d_Mo_fraction_168 : decode prog_13_method_48_code 168 = .ok (.getfield 87, 3) := by decide +kernel
theorem d_Mo_fraction_171 : decode prog_13_method_48_code 171 = .ok (.ifCond .eq 14, 3) := by decide +kernel
theorem d_Mo_fraction_174 : decode prog_13_method_48_code 174 = .ok (.iload_n 3, 1) := by decide +kernel
theorem d_Mo_fraction_175 : decode prog_13_method_48_code 175 = .ok (.ifCond .eq 10, 3) := by decide +kernel
theorem d_Mo_fraction_178 : decode prog_13_method_48_code 178 = .ok (.bipush 72, 2) := by decide +kernel
theorem d_Mo_fraction_180 : decode prog_13_method_48_code 180 = .ok (.iload_n 2, 1) := by decide +kernel
theorem d_Mo_fraction_181 : decode prog_13_method_48_code 181 = .ok (.iadd, 1) := by decide +kernel
theorem d_Mo_fraction_182 : decode prog_13_method_48_code 182 = .ok (.goto 4, 3) := by decide +kernel
theorem d_Mo_fraction_185 : decode prog_13_method_48_code 185 = .ok (.iconst (-1), 1) := by decide +kernel
theorem d_Mo_fraction_186 : decode prog_13_method_48_code 186 = .ok (.ireturn, 1) := by decide +kernel
theorem d_Mo_fraction_187 : decode prog_13_method_48_code 187 = .ok (.aload_n 0, 1) := by decide +kernel
theorem d_Mo_fraction_188 : decode prog_13_method_48_code 188 = .ok (.getfield 159, 3) := by decide +kernel
theorem d_Mo_fraction_191 : decode prog_13_method_48_code 191 = .ok (.ifCond .eq 14, 3) := by decide +kernel
theorem d_Mo_fraction_194 : decode prog_13_method_48_code 194 = .ok (.iload_n 3, 1) := by decide +kernel
theorem d_Mo_fraction_195 : decode prog_13_method_48_code 195 = .ok (.ifCond .eq 10, 3) := by decide +kernel
theorem d_Mo_fraction_198 : decode prog_13_method_48_code 198 = .ok (.bipush 84, 2) := by decide +kernel
theorem d_Mo_fraction_200 : decode prog_13_method_48_code 200 = .ok (.iload_n 2, 1) := by decide +kernel
theorem d_Mo_fraction_201 : decode prog_13_method_48_code 201 = .ok (.iadd, 1) := by decide +kernel
theorem d_Mo_fraction_202 : decode prog_13_method_48_code 202 = .ok (.goto 4, 3) := by decide +kernel
theorem d_Mo_fraction_205 : decode prog_13_method_48_code 205 = .ok (.iconst (-1), 1) := by decide +kernel
theorem d_Mo_fraction_206 : decode prog_13_method_48_code 206 = .ok (.ireturn, 1) := by decide +kernel
theorem d_Mo_fraction_207 : decode prog_13_method_48_code 207 = .ok (.aload_n 0, 1) := by decide +kernel
theorem d_Mo_fraction_208 : decode prog_13_method_48_code 208 = .ok (.getfield 159, 3) := by decide +kernel
theorem d_Mo_fraction_211 : decode prog_13_method_48_code 211 = .ok (.ifCond .eq 14, 3) := by decide +kernel
theorem d_Mo_fraction_214 : decode prog_13_method_48_code 214 = .ok (.iload_n 3, 1) := by decide +kernel
theorem d_Mo_fraction_215 : decode prog_13_method_48_code 215 = .ok (.ifCond .eq 10, 3) := by decide +kernel
theorem d_Mo_fraction_218 : decode prog_13_method_48_code 218 = .ok (.bipush 96, 2) := by decide +kernel
theorem d_Mo_fraction_220 : decode prog_13_method_48_code 220 = .ok (.iload_n 2, 1) := by decide +kernel
theorem d_Mo_fraction_221 : decode prog_13_method_48_code 221 = .ok (.iadd, 1) := by decide +kernel
theorem d_Mo_fraction_222 : decode prog_13_method_48_code 222 = .ok (.goto 4, 3) := by decide +kernel
theorem d_Mo_fraction_225 : decode prog_13_method_48_code 225 = .ok (.iconst (-1), 1) := by decide +kernel
theorem d_Mo_fraction_226 : decode prog_13_method_48_code 226 = .ok (.ireturn, 1) := by decide +kernel
theorem d_Mo_fraction_227 : decode prog_13_method_48_code 227 = .ok (.aload_n 0, 1) := by decide +kernel
theorem d_Mo_fraction_228 : decode prog_13_method_48_code 228 = .ok (.getfield 87, 3) := by decide +kernel
theorem d_Mo_fraction_231 : decode prog_13_method_48_code 231 = .ok (.ifCond .eq 12, 3) := by decide +kernel
theorem d_Mo_fraction_234 : decode prog_13_method_48_code 234 = .ok (.iload_n 2, 1) := by decide +kernel
theorem d_Mo_fraction_235 : decode prog_13_method_48_code 235 = .ok (.ifCond .ne 8, 3) := by decide +kernel
theorem d_Mo_fraction_238 : decode prog_13_method_48_code 238 = .ok (.bipush 108, 2) := by decide +kernel
theorem d_Mo_fraction_240 : decode prog_13_method_48_code 240 = .ok (.goto 4, 3) := by decide +kernel
theorem d_Mo_fraction_243 : decode prog_13_method_48_code 243 = .ok (.iconst (-1), 1) := by decide +kernel
theorem d_Mo_fraction_244 : decode prog_13_method_48_code 244 = .ok (.ireturn, 1) := by decide +kernel
theorem d_Mo_fraction_245 : decode prog_13_method_48_code 245 = .ok (.aload_n 0, 1) := by decide +kernel
theorem d_Mo_fraction_246 : decode prog_13_method_48_code 246 = .ok (.getfield 156, 3) := by decide +kernel
theorem d_Mo_fraction_249 : decode prog_13_method_48_code 249 = .ok (.ifCond .eq 12, 3) := by decide +kernel
theorem d_Mo_fraction_252 : decode prog_13_method_48_code 252 = .ok (.iload_n 2, 1) := by decide +kernel
theorem d_Mo_fraction_253 : decode prog_13_method_48_code 253 = .ok (.ifCond .ne 8, 3) := by decide +kernel
theorem d_Mo_fraction_256 : decode prog_13_method_48_code 256 = .ok (.bipush 109, 2) := by decide +kernel
theorem d_Mo_fraction_258 : decode prog_13_method_48_code 258 = .ok (.goto 4, 3) := by decide +kernel
theorem d_Mo_fraction_261 : decode prog_13_method_48_code 261 = .ok (.iconst (-1), 1) := by decide +kernel
theorem d_Mo_fraction_262 : decode prog_13_method_48_code 262 = .ok (.ireturn, 1) := by decide +kernel
theorem d_Mo_fraction_263 : decode prog_13_method_48_code 263 = .ok (.aload_n 0, 1) := by decide +kernel
theorem d_Mo_fraction_264 : decode prog_13_method_48_code 264 = .ok (.getfield 159, 3) := by decide +kernel
theorem d_Mo_fraction_267 : decode prog_13_method_48_code 267 = .ok (.ifCond .eq 12, 3) := by decide +kernel
theorem d_Mo_fraction_270 : decode prog_13_method_48_code 270 = .ok (.iload_n 2, 1) := by decide +kernel
theorem d_Mo_fraction_271 : decode prog_13_method_48_code 271 = .ok (.ifCond .ne 8, 3) := by decide +kernel
theorem d_Mo_fraction_274 : decode prog_13_method_48_code 274 = .ok (.bipush 110, 2) := by decide +kernel
theorem d_Mo_fraction_276 : decode prog_13_method_48_code 276 = .ok (.goto 4, 3) := by decide +kernel
theorem d_Mo_fraction_279 : decode prog_13_method_48_code 279 = .ok (.iconst (-1), 1) := by decide +kernel
theorem d_Mo_fraction_280 : decode prog_13_method_48_code 280 = .ok (.ireturn, 1) := by decide +kernel
theorem d_Mo_fraction_281 : decode prog_13_method_48_code 281 = .ok (.iconst (-1), 1) := by decide +kernel
theorem d_Mo_fraction_282 : decode prog_13_method_48_code 282 = .ok (.ireturn, 1) := by decide +kernel
theorem d_Mo_printNumber_0 : decode prog_13_method_49_code 0 = .ok (.aload_n 0, 1) := by decide +kernel
theorem d_Mo_printNumber_1 : decode prog_13_method_49_code 1 = .ok (.iload_n 1, 1) := by decide +kernel
theorem d_Mo_printNumber_2 : decode prog_13_method_49_code 2 = .ok (.sipush 244, 3) := by decide +kernel
theorem d_Mo_printNumber_5 : decode prog_13_method_49_code 5 = .ok (.invokevirtual 106, 3) := by decide +kernel
theorem d_Mo_printNumber_8 : decode prog_13_method_49_code 8 = .ok (.aload_n 0, 1) := by decide +kernel
theorem d_Mo_printNumber_9 : decode prog_13_method_49_code 9 = .ok (.getfield 235, 3) := by decide +kernel
theorem d_Mo_printNumber_12 : decode prog_13_method_49_code 12 = .ok (.istore_n 2, 1) := by decide +kernel
theorem d_Mo_printNumber_13 : decode prog_13_method_49_code 13 = .ok (.iconst 1, 1) := by decide +kernel
theorem d_Mo_printNumber_14 : decode prog_13_method_49_code 14 = .ok (.istore_n 3, 1) := by decide +kernel
theorem d_Mo_printNumber_15 : decode prog_13_method_49_code 15 = .ok (.iload_n 3, 1) := by decide +kernel
theorem d_Mo_printNumber_16 : decode prog_13_method_49_code 16 = .ok (.ifCond .eq 54, 3) := by decide +kernel
theorem d_Mo_printNumber_19 : decode prog_13_method_49_code 19 = .ok (.aload_n 0, 1) := by decide +kernel
theorem d_Mo_printNumber_20 : decode prog_13_method_49_code 20 = .ok (.getfield 84, 3) := by decide +kernel
theorem d_Mo_printNumber_23 : decode prog_13_method_49_code 23 = .ok (.aload_n 0, 1) := by decide +kernel
theorem d_Mo_printNumber_24 : decode prog_13_method_49_code 24 = .ok (.getfield 235, 3) := by decide +kernel
theorem d_Mo_printNumber_27 : decode prog_13_method_49_code 27 = .ok (.bipush 48, 2) := by decide +kernel
theorem d_Mo_printNumber_29 : decode prog_13_method_49_code 29 = .ok (.aload_n 0, 1) := by decide +kernel
theorem d_Mo_printNumber_30 : decode prog_13_method_49_code 30 = .ok (.sipush 244, 3) := by decide +kernel
theorem d_Mo_printNumber_33 : decode prog_13_method_49_code 33 = .ok (.bipush 10, 2) := by decide +kernel
theorem d_Mo_printNumber_35 : decode prog_13_method_49_code 35 = .ok (.invokevirtual 114, 3) := by decide +kernel
theorem d_Mo_printNumber_38 : decode prog_13_method_49_code 38 = .ok (.iadd, 1) := by decide +kernel
theorem d_Mo_printNumber_39 : decode prog_13_method_49_code 39 = .ok (.iastore, 1) := by decide +kernel
theorem d_Mo_printNumber_40 : decode prog_13_method_49_code 40 = .ok (.aload_n 0, 1) := by decide +kernel
theorem d_Mo_printNumber_41 : decode prog_13_method_49_code 41 = .ok (.dup, 1) := by decide +kernel
theorem d_Mo_printNumber_42 : decode prog_13_method_49_code 42 = .ok (.getfield 235, 3) := by decide +kernel
theorem d_Mo_printNumber_45 : decode prog_13_method_49_code 45 = .ok (.iconst 1, 1) := by decide +kernel
theorem d_Mo_printNumber_46 : decode prog_13_method_49_code 46 = .ok (.iadd, 1) := by decide +kernel
theorem d_Mo_printNumber_47 : decode prog_13_method_49_code 47 = .ok (.putfield 235, 3) := by decide +kernel
theorem d_Mo_printNumber_50 : decode prog_13_method_49_code 50 = .ok (.aload_n 0, 1) := by decide +kernel
theorem d_Mo_printNumber_51 : decode prog_13_method_49_code 51 = .ok (.getfield 13, 3) := by decide +kernel
theorem d_Mo_printNumber_54 : decode prog_13_method_49_code 54 = .ok (.sipush 244, 3) := by decide +kernel
theorem d_Mo_printNumber_57 : decode prog_13_method_49_code 57 = .ok (.iaload, 1) := by decide +kernel
theorem d_Mo_printNumber_58 : decode prog_13_method_49_code 58 = .ok (.ifCond .le 7, 3) := by decide +kernel
theorem d_Mo_printNumber_61 : decode prog_13_method_49_code 61 = .ok (.iconst 1, 1) := by decide +kernel
theorem d_Mo_printNumber_62 : decode prog_13_method_49_code 62 = .ok (.goto 4, 3) := by decide +kernel
theorem d_Mo_printNumber_65 : decode prog_13_method_49_code 65 = .ok (.iconst 0, 1) := by decide +kernel
theorem d_Mo_printNumber_66 : decode prog_13_method_49_code 66 = .ok (.istore_n 3, 1) := by decide +kernel
theorem d_Mo_printNumber_67 : decode prog_13_method_49_code 67 = .ok (.goto (-52), 3) := by decide +kernel
theorem d_Mo_printNumber_70 : decode prog_13_method_49_code 70 = .ok (.iload_n 2, 1) := by decide +kernel
theorem d_Mo_printNumber_71 : decode prog_13_method_49_code 71 = .ok (.istore 4, 2) := by decide +kernel
theorem d_Mo_printNumber_73 : decode prog_13_method_49_code 73 = .ok (.aload_n 0, 1) := by decide +kernel
theorem d_Mo_printNumber_74 : decode prog_13_method_49_code 74 = .ok (.getfield 235, 3) := by decide +kernel
theorem d_Mo_printNumber_77 : decode prog_13_method_49_code 77 = .ok (.iconst 1, 1) := by decide +kernel
theorem d_Mo_printNumber_78 : decode prog_13_method_49_code 78 = .ok (.isub, 1) := by decide +kernel
theorem d_Mo_printNumber_79 : decode prog_13_method_49_code 79 = .ok (.istore 5, 2) := by decide +kernel
theorem d_Mo_printNumber_81 : decode prog_13_method_49_code 81 = .ok (.iload 4, 2) := by decide +kernel
theorem d_Mo_printNumber_83 : decode prog_13_method_49_code 83 = .ok (.iload 5, 2) := by decide +kernel
theorem d_Mo_printNumber_85 : decode prog_13_method_49_code 85 = .ok (.if_icmp .ge 44, 3) := by decide +kernel
theorem d_Mo_printNumber_88 : decode prog_13_method_49_code 88 = .ok (.aload_n 0, 1) := by decide +kernel
theorem d_Mo_printNumber_89 : decode prog_13_method_49_code 89 = .ok (.getfield 84, 3) := by decide +kernel
theorem d_Mo_printNumber_92 : decode prog_13_method_49_code 92 = .ok (.iload 4, 2) := by decide +kernel
theorem d_Mo_printNumber_94 : decode prog_13_method_49_code 94 = .ok (.iaload, 1) := by decide +kernel
theorem d_Mo_printNumber_95 : decode prog_13_method_49_code 95 = .ok (.istore 6, 2) := by decide +kernel
theorem d_Mo_printNumber_97 : decode prog_13_method_49_code 97 = .ok (.aload_n 0, 1) := by decide +kernel
theorem d_Mo_printNumber_98 : decode prog_13_method_49_code 98 = .ok (.getfield 84, 3) := by decide +kernel
theorem d_Mo_printNumber_101 : decode prog_13_method_49_code 101 = .ok (.iload 4, 2) := by decide +kernel
theorem d_Mo_printNumber_103 : decode prog_13_method_49_code 103 = .ok (.aload_n 0, 1) := by decide +kernel
theorem d_Mo_printNumber_104 : decode prog_13_method_49_code 104 = .ok (.getfield 84, 3) := by decide +kernel
theorem d_Mo_printNumber_107 : decode prog_13_method_49_code 107 = .ok (.iload 5, 2) := by decide +kernel
theorem d_Mo_printNumber_109 : decode prog_13_method_49_code 109 = .ok (.iaload, 1) := by decide +kernel
theorem d_Mo_printNumber_110 : decode prog_13_method_49_code 110 = .ok (.iastore, 1) := by decide +kernel
theorem d_Mo_printNumber_111 : decode prog_13_method_49_code 111 = .ok (.aload_n 0, 1) := by decide +kernel
theorem d_Mo_printNumber_112 : decode prog_13_method_49_code 112 = .ok (.getfield 84, 3) := by decide +kernel
theorem d_Mo_printNumber_115 : decode prog_13_method_49_code 115 = .ok (.iload 5, 2) := by decide +kernel
theorem d_Mo_printNumber_117 : decode prog_13_method_49_code 117 = .ok (.iload 6, 2) := by decide +kernel
theorem d_Mo_printNumber_119 : decode prog_13_method_49_code 119 = .ok (.iastore, 1) := by decide +kernel
theorem d_Mo_printNumber_120 : decode prog_13_method_49_code 120 = .ok (.iinc 4 1, 3) := by decide +kernel
theorem d_Mo_printNumber_123 : decode prog_13_method_49_code 123 = .ok (.iinc 5 (-1), 3) := by decide +kernel
theorem d_Mo_printNumber_126 : decode prog_13_method_49_code 126 = .ok (.goto (-45), 3) := by decide +kernel
theorem d_Mo_printNumber_129 : decode prog_13_method_49_code 129 = .ok (.return_, 1) := by decide +kernel
theorem d_Mo_print_0 : decode prog_13_method_50_code 0 = .ok (.aload_n 0, 1) := by decide +kernel
theorem d_Mo_print_1 : decode prog_13_method_50_code 1 = .ok (.iconst 0, 1) := by decide +kernel
theorem d_Mo_print_2 : decode prog_13_method_50_code 2 = .ok (.putfield 91, 3) := by decide +kernel
theorem d_Mo_print_5 : decode prog_13_method_50_code 5 = .ok (.aload_n 0, 1) := by decide +kernel
theorem d_Mo_print_6 : decode prog_13_method_50_code 6 = .ok (.iload_n 1, 1) := by decide +kernel
theorem d_Mo_print_7 : decode prog_13_method_50_code 7 = .ok (.iload_n 2, 1) := by decide +kernel
theorem d_Mo_print_8 : decode prog_13_method_50_code 8 = .ok (.invokevirtual 238, 3) := by decide +kernel
theorem d_Mo_print_11 : decode prog_13_method_50_code 11 = .ok (.istore_n 3, 1) := by decide +kernel
theorem d_Mo_print_12 : decode prog_13_method_50_code 12 = .ok (.iload_n 3, 1) := by decide +kernel
theorem d_Mo_print_13 : decode prog_13_method_50_code 13 = .ok (.ifCond .ge 5, 3) := by decide +kernel
theorem d_Mo_print_16 : decode prog_13_method_50_code 16 = .ok (.iconst (-1), 1) := by decide +kernel
theorem d_Mo_print_17 : decode prog_13_method_50_code 17 = .ok (.ireturn, 1) := by decide +kernel
theorem d_Mo_print_18 : decode prog_13_method_50_code 18 = .ok (.aload_n 0, 1) := by decide +kernel
theorem d_Mo_print_19 : decode prog_13_method_50_code 19 = .ok (.iconst 0, 1) := by decide +kernel
theorem d_Mo_print_20 : decode prog_13_method_50_code 20 = .ok (.putfield 235, 3) := by decide +kernel
theorem d_Mo_print_23 : decode prog_13_method_50_code 23 = .ok (.aload_n 0, 1) := by decide +kernel
theorem d_Mo_print_24 : decode prog_13_method_50_code 24 = .ok (.iconst 2, 1) := by decide +kernel
theorem d_Mo_print_25 : decode prog_13_method_50_code 25 = .ok (.iload_n 3, 1) := by decide +kernel
theorem d_Mo_print_26 : decode prog_13_method_50_code 26 = .ok (.imul, 1) := by decide +kernel
theorem d_Mo_print_27 : decode prog_13_method_50_code 27 = .ok (.invokevirtual 241, 3) := by decide +kernel
theorem d_Mo_print_30 : decode prog_13_method_50_code 30 = .ok (.aload_n 0, 1) := by decide +kernel
theorem d_Mo_print_31 : decode prog_13_method_50_code 31 = .ok (.getfield 13, 3) := by decide +kernel
theorem d_Mo_print_34 : decode prog_13_method_50_code 34 = .ok (.iconst 2, 1) := by decide +kernel
theorem d_Mo_print_35 : decode prog_13_method_50_code 35 = .ok (.iload_n 3, 1) := by decide +kernel
theorem d_Mo_print_36 : decode prog_13_method_50_code 36 = .ok (.imul, 1) := by decide +kernel
theorem d_Mo_print_37 : decode prog_13_method_50_code 37 = .ok (.iconst 1, 1) := by decide +kernel
theorem d_Mo_print_38 : decode prog_13_method_50_code 38 = .ok (.iadd, 1) := by decide +kernel
theorem d_Mo_print_39 : decode prog_13_method_50_code 39 = .ok (.iaload, 1) := by decide +kernel
theorem d_Mo_print_40 : decode prog_13_method_50_code 40 = .ok (.iconst 1, 1) := by decide +kernel
theorem d_Mo_print_41 : decode prog_13_method_50_code 41 = .ok (.if_icmp .ne 20, 3) := by decide +kernel
theorem d_Mo_print_44 : decode prog_13_method_50_code 44 = .ok (.aload_n 0, 1) := by decide +kernel
theorem d_Mo_print_45 : decode prog_13_method_50_code 45 = .ok (.getfield 7, 3) := by decide +kernel
theorem d_Mo_print_48 : decode prog_13_method_50_code 48 = .ok (.bipush 100, 2) := by decide +kernel
theorem d_Mo_print_50 : decode prog_13_method_50_code 50 = .ok (.iconst 2, 1) := by decide +kernel
theorem d_Mo_print_51 : decode prog_13_method_50_code 51 = .ok (.iload_n 3, 1) := by decide +kernel
theorem d_Mo_print_52 : decode prog_13_method_50_code 52 = .ok (.imul, 1) := by decide +kernel
theorem d_Mo_print_53 : decode prog_13_method_50_code 53 = .ok (.iconst 1, 1) := by decide +kernel
theorem d_Mo_print_54 : decode prog_13_method_50_code 54 = .ok (.iadd, 1) := by decide +kernel
theorem d_Mo_print_55 : decode prog_13_method_50_code 55 = .ok (.imul, 1) := by decide +kernel
theorem d_Mo_print_56 : decode prog_13_method_50_code 56 = .ok (.iaload, 1) := by decide +kernel
theorem d_Mo_print_57 : decode prog_13_method_50_code 57 = .ok (.iconst 1, 1) := by decide +kernel
theorem d_Mo_print_58 : decode prog_13_method_50_code 58 = .ok (.if_icmp .eq 33, 3) := by decide +kernel
theorem d_Mo_print_61 : decode prog_13_method_50_code 61 = .ok (.aload_n 0, 1) := by decide +kernel
theorem d_Mo_print_62 : decode prog_13_method_50_code 62 = .ok (.getfield 84, 3) := by decide +kernel
theorem d_Mo_print_65 : decode prog_13_method_50_code 65 = .ok (.aload_n 0, 1) := by decide +kernel
theorem d_Mo_print_66 : decode prog_13_method_50_code 66 = .ok (.getfield 235, 3) := by decide +kernel
theorem d_Mo_print_69 : decode prog_13_method_50_code 69 = .ok (.bipush 47, 2) := by decide +kernel
theorem d_Mo_print_71 : decode prog_13_method_50_code 71 = .ok (.iastore, 1) := by decide +kernel
theorem d_Mo_print_72 : decode prog_13_method_50_code 72 = .ok (.aload_n 0, 1) := by decide +kernel
theorem d_Mo_print_73 : decode prog_13_method_50_code 73 = .ok (.dup, 1) := by decide +kernel
theorem d_Mo_print_74 : decode prog_13_method_50_code 74 = .ok (.getfield 235, 3) := by decide +kernel
theorem d_Mo_print_77 : decode prog_13_method_50_code 77 = .ok (.iconst 1, 1) := by decide +kernel
theorem d_Mo_print_78 : decode prog_13_method_50_code 78 = .ok (.iadd, 1) := by decide +kernel
theorem d_Mo_print_79 : decode prog_13_method_50_code 79 = .ok (.putfield 235, 3) := by decide +kernel
theorem d_Mo_print_82 : decode prog_13_method_50_code 82 = .ok (.aload_n 0, 1) := by decide +kernel
theorem d_Mo_print_83 : decode prog_13_method_50_code 83 = .ok (.iconst 2, 1) := by decide +kernel
theorem d_Mo_print_84 : decode prog_13_method_50_code 84 = .ok (.iload_n 3, 1) := by decide +kernel
theorem d_Mo_print_85 : decode prog_13_method_50_code 85 = .ok (.imul, 1) := by decide +kernel
theorem d_Mo_print_86 : decode prog_13_method_50_code 86 = .ok (.iconst 1, 1) := by decide +kernel
theorem d_Mo_print_87 : decode prog_13_method_50_code 87 = .ok (.iadd, 1) := by decide +kernel
theorem d_Mo_print_88 : decode prog_13_method_50_code 88 = .ok (.invokevirtual 241, 3) := by decide +kernel
theorem d_Mo_print_91 : decode prog_13_method_50_code 91 = .ok (.aload_n 0, 1) := by decide +kernel
theorem d_Mo_print_92 : decode prog_13_method_50_code 92 = .ok (.getfield 235, 3) := by decide +kernel
theorem d_Mo_print_95 : decode prog_13_method_50_code 95 = .ok (.ireturn, 1) := by decide +kernel
theorem d_Mo_character_0 : decode prog_13_method_51_code 0 = .ok (.aload_n 0, 1) := by decide +kernel
theorem d_Mo_character_1 : decode prog_13_method_51_code 1 = .ok (.iconst 0, 1) := by decide +kernel
theorem d_Mo_character_2 : decode prog_13_method_51_code 2 = .ok (.putfield 91, 3) := by decide +kernel
theorem d_Mo_character_5 : decode prog_13_method_51_code 5 = .ok (.iload_n 1, 1) := by decide +kernel
theorem d_Mo_character_6 : decode prog_13_method_51_code 6 = .ok (.iconst 0, 1) := by decide +kernel
theorem d_Mo_character_7 : decode prog_13_method_51_code 7 = .ok (.aload_n 0, 1) := by decide +kernel
theorem d_Mo_character_8 : decode prog_13_method_51_code 8 = .ok (.getfield 235, 3) := by decide +kernel
theorem d_Mo_character_11 : decode prog_13_method_51_code 11 = .ok (.iconst 1, 1) := by decide +kernel
theorem d_Mo_character_12 : decode prog_13_method_51_code 12 = .ok (.isub, 1) := by decide +kernel
theorem d_Mo_character_13 : decode prog_13_method_51_code 13 = .ok (.invokestatic 149, 3) := by decide +kernel
theorem d_Mo_character_16 : decode prog_13_method_51_code 16 = .ok (.ifCond .eq 12, 3) := by decide +kernel
theorem d_Mo_character_19 : decode prog_13_method_51_code 19 = .ok (.aload_n 0, 1) := by decide +kernel
theorem d_Mo_character_20 : decode prog_13_method_51_code 20 = .ok (.getfield 84, 3) := by decide +kernel
theorem d_Mo_character_23 : decode prog_13_method_51_code 23 = .ok (.iload_n 1, 1) := by decide +kernel
theorem d_Mo_character_24 : decode prog_13_method_51_code 24 = .ok (.iaload, 1) := by decide +kernel
theorem d_Mo_character_25 : decode prog_13_method_51_code 25 = .ok (.goto 4, 3) := by decide +kernel
theorem d_Mo_character_28 : decode prog_13_method_51_code 28 = .ok (.iconst (-1), 1) := by decide +kernel
theorem d_Mo_character_29 : decode prog_13_method_51_code 29 = .ok (.ireturn, 1) := by decide +kernel
theorem d_Mo_compare_0 : decode prog_13_method_52_code 0 = .ok (.aload_n 0, 1) := by decide +kernel
theorem d_Mo_compare_1 : decode prog_13_method_52_code 1 = .ok (.iconst 0, 1) := by decide +kernel
theorem d_Mo_compare_2 : decode prog_13_method_52_code 2 = .ok (.putfield 91, 3) := by decide +kernel
theorem d_Mo_compare_5 : decode prog_13_method_52_code 5 = .ok (.aload_n 0, 1) := by decide +kernel
theorem d_Mo_compare_6 : decode prog_13_method_52_code 6 = .ok (.iload_n 1, 1) := by decide +kernel
theorem d_Mo_compare_7 : decode prog_13_method_52_code 7 = .ok (.iload_n 2, 1) := by decide +kernel
theorem d_Mo_compare_8 : decode prog_13_method_52_code 8 = .ok (.invokevirtual 238, 3) := by decide +kernel
theorem d_Mo_compare_11 : decode prog_13_method_52_code 11 = .ok (.istore 5, 2) := by decide +kernel
theorem d_Mo_compare_13 : decode prog_13_method_52_code 13 = .ok (.aload_n 0, 1) := by decide +kernel
theorem d_Mo_compare_14 : decode prog_13_method_52_code 14 = .ok (.iload_n 3, 1) := by decide +kernel
theorem d_Mo_compare_15 : decode prog_13_method_52_code 15 = .ok (.iload 4, 2) := by decide +kernel
theorem d_Mo_compare_17 : decode prog_13_method_52_code 17 = .ok (.invokevirtual 238, 3) := by decide +kernel
theorem d_Mo_compare_20 : decode prog_13_method_52_code 20 = .ok (.istore 6, 2) := by decide +kernel
theorem d_Mo_compare_22 : decode prog_13_method_52_code 22 = .ok (.iload 5, 2) := by decide +kernel
theorem d_Mo_compare_24 : decode prog_13_method_52_code 24 = .ok (.ifCond .lt 8, 3) := by decide +kernel
theorem d_Mo_compare_27 : decode prog_13_method_52_code 27 = .ok (.iload 6, 2) := by decide +kernel
theorem d_Mo_compare_29 : decode prog_13_method_52_code 29 = .ok (.ifCond .ge 6, 3) := by decide +kernel
theorem d_Mo_compare_32 : decode prog_13_method_52_code 32 = .ok (.bipush (-2), 2) := by decide +kernel
theorem d_Mo_compare_34 : decode prog_13_method_52_code 34 = .ok (.ireturn, 1) := by decide +kernel
theorem d_Mo_compare_35 : decode prog_13_method_52_code 35 = .ok (.aload_n 0, 1) := by decide +kernel
theorem d_Mo_compare_36 : decode prog_13_method_52_code 36 = .ok (.iconst 2, 1) := by decide +kernel
theorem d_Mo_compare_37 : decode prog_13_method_52_code 37 = .ok (.iload 5, 2) := by decide +kernel
theorem d_Mo_compare_39 : decode prog_13_method_52_code 39 = .ok (.imul, 1) := by decide +kernel
theorem d_Mo_compare_40 : decode prog_13_method_52_code 40 = .ok (.iconst 2, 1) := by decide +kernel
theorem d_Mo_compare_41 : decode prog_13_method_52_code 41 = .ok (.iload 6, 2) := by decide +kernel
theorem d_Mo_compare_43 : decode prog_13_method_52_code 43 = .ok (.imul, 1) := by decide +kernel
theorem d_Mo_compare_44 : decode prog_13_method_52_code 44 = .ok (.iconst 1, 1) := by decide +kernel
theorem d_Mo_compare_45 : decode prog_13_method_52_code 45 = .ok (.iadd, 1) := by decide +kernel
theorem d_Mo_compare_46 : decode prog_13_method_52_code 46 = .ok (.sipush 244, 3) := by decide +kernel
theorem d_Mo_compare_49 : decode prog_13_method_52_code 49 = .ok (.invokevirtual 140, 3) := by decide +kernel
theorem d_Mo_compare_52 : decode prog_13_method_52_code 52 = .ok (.aload_n 0, 1) := by decide +kernel
theorem d_Mo_compare_53 : decode prog_13_method_52_code 53 = .ok (.iconst 2, 1) := by decide +kernel
theorem d_Mo_compare_54 : decode prog_13_method_52_code 54 = .ok (.iload 6, 2) := by decide +kernel
theorem d_Mo_compare_56 : decode prog_13_method_52_code 56 = .ok (.imul, 1) := by decide +kernel
theorem d_Mo_compare_57 : decode prog_13_method_52_code 57 = .ok (.iconst 2, 1) := by decide +kernel
theorem d_Mo_compare_58 : decode prog_13_method_52_code 58 = .ok (.iload 5, 2) := by decide +kernel
theorem d_Mo_compare_60 : decode prog_13_method_52_code 60 = .ok (.imul, 1) := by decide +kernel
theorem d_Mo_compare_61 : decode prog_13_method_52_code 61 = .ok (.iconst 1, 1) := by decide +kernel
theorem d_Mo_compare_62 : decode prog_13_method_52_code 62 = .ok (.iadd, 1) := by decide +kernel
theorem d_Mo_compare_63 : decode prog_13_method_52_code 63 = .ok (.sipush 245, 3) := by decide +kernel
theorem d_Mo_compare_66 : decode prog_13_method_52_code 66 = .ok (.invokevirtual 140, 3) := by decide +kernel
theorem d_Mo_compare_69 : decode prog_13_method_52_code 69 = .ok (.aload_n 0, 1) := by decide +kernel
theorem d_Mo_compare_70 : decode prog_13_method_52_code 70 = .ok (.sipush 244, 3) := by decide +kernel
theorem d_Mo_compare_73 : decode prog_13_method_52_code 73 = .ok (.sipush 245, 3) := by decide +kernel
theorem d_Mo_compare_76 : decode prog_13_method_52_code 76 = .ok (.invokevirtual 117, 3) := by decide +kernel
theorem d_Mo_compare_79 : decode prog_13_method_52_code 79 = .ok (.ireturn, 1) := by decide +kernel
theorem d_Mo_speedOf_0 : decode prog_13_method_53_code 0 = .ok (.aload_n 0, 1) := by decide +kernel
theorem d_Mo_speedOf_1 : decode prog_13_method_53_code 1 = .ok (.getfield 60, 3) := by decide +kernel
theorem d_Mo_speedOf_4 : decode prog_13_method_53_code 4 = .ok (.iload_n 1, 1) := by decide +kernel
theorem d_Mo_speedOf_5 : decode prog_13_method_53_code 5 = .ok (.laload, 1) := by decide +kernel
theorem d_Mo_speedOf_6 : decode prog_13_method_53_code 6 = .ok (.l2d, 1) := by decide +kernel
theorem d_Mo_speedOf_7 : decode prog_13_method_53_code 7 = .ok (.aload_n 0, 1) := by decide +kernel
theorem d_Mo_speedOf_8 : decode prog_13_method_53_code 8 = .ok (.getfield 63, 3) := by decide +kernel
theorem d_Mo_speedOf_11 : decode prog_13_method_53_code 11 = .ok (.iload_n 1, 1) := by decide +kernel
theorem d_Mo_speedOf_12 : decode prog_13_method_53_code 12 = .ok (.laload, 1) := by decide +kernel
theorem d_Mo_speedOf_13 : decode prog_13_method_53_code 13 = .ok (.l2d, 1) := by decide +kernel
theorem d_Mo_speedOf_14 : decode prog_13_method_53_code 14 = .ok (.ddiv, 1) := by decide +kernel
theorem d_Mo_speedOf_15 : decode prog_13_method_53_code 15 = .ok (.dreturn, 1) := by decide +kernel
theorem d_Mo_near_0 : decode prog_13_method_54_code 0 = .ok (.aload_n 0, 1) := by decide +kernel
theorem d_Mo_near_1 : decode prog_13_method_54_code 1 = .ok (.iconst 0, 1) := by decide +kernel
theorem d_Mo_near_2 : decode prog_13_method_54_code 2 = .ok (.putfield 91, 3) := by decide +kernel
theorem d_Mo_near_5 : decode prog_13_method_54_code 5 = .ok (.dconst 0, 1) := by decide +kernel
theorem d_Mo_near_6 : decode prog_13_method_54_code 6 = .ok (.dstore_n 1, 1) := by decide +kernel
theorem d_Mo_near_7 : decode prog_13_method_54_code 7 = .ok (.iconst 0, 1) := by decide +kernel
theorem d_Mo_near_8 : decode prog_13_method_54_code 8 = .ok (.istore_n 3, 1) := by decide +kernel
theorem d_Mo_near_9 : decode prog_13_method_54_code 9 = .ok (.iload_n 3, 1) := by decide +kernel
theorem d_Mo_near_10 : decode prog_13_method_54_code 10 = .ok (.aload_n 0, 1) := by decide +kernel
theorem d_Mo_near_11 : decode prog_13_method_54_code 11 = .ok (.getfield 184, 3) := by decide +kernel
theorem d_Mo_near_14 : decode prog_13_method_54_code 14 = .ok (.if_icmp .ge 49, 3) := by decide +kernel
theorem d_Mo_near_17 : decode prog_13_method_54_code 17 = .ok (.aload_n 0, 1) := by decide +kernel
theorem d_Mo_near_18 : decode prog_13_method_54_code 18 = .ok (.getfield 87, 3) := by decide +kernel
theorem d_Mo_near_21 : decode prog_13_method_54_code 21 = .ok (.ifCond .eq 42, 3) := by decide +kernel
theorem d_Mo_near_24 : decode prog_13_method_54_code 24 = .ok (.aload_n 0, 1) := by decide +kernel
theorem d_Mo_near_25 : decode prog_13_method_54_code 25 = .ok (.iload_n 3, 1) := by decide +kernel
theorem d_Mo_near_26 : decode prog_13_method_54_code 26 = .ok (.invokevirtual 244, 3) := by decide +kernel
theorem d_Mo_near_29 : decode prog_13_method_54_code 29 = .ok (.dstore 4, 2) := by decide +kernel
theorem d_Mo_near_31 : decode prog_13_method_54_code 31 = .ok (.dload_n 1, 1) := by decide +kernel
theorem d_Mo_near_32 : decode prog_13_method_54_code 32 = .ok (.aload_n 0, 1) := by decide +kernel
theorem d_Mo_near_33 : decode prog_13_method_54_code 33 = .ok (.getfield 57, 3) := by decide +kernel
theorem d_Mo_near_36 : decode prog_13_method_54_code 36 = .ok (.iload_n 3, 1) := by decide +kernel
theorem d_Mo_near_37 : decode prog_13_method_54_code 37 = .ok (.iaload, 1) := by decide +kernel
theorem d_Mo_near_38 : decode prog_13_method_54_code 38 = .ok (.aload_n 0, 1) := by decide +kernel
theorem d_Mo_near_39 : decode prog_13_method_54_code 39 = .ok (.getfield 54, 3) := by decide +kernel
theorem d_Mo_near_42 : decode prog_13_method_54_code 42 = .ok (.iload_n 3, 1) := by decide +kernel
theorem d_Mo_near_43 : decode prog_13_method_54_code 43 = .ok (.iaload, 1) := by decide +kernel
theorem d_Mo_near_44 : decode prog_13_method_54_code 44 = .ok (.isub, 1) := by decide +kernel
theorem d_Mo_near_45 : decode prog_13_method_54_code 45 = .ok (.i2d, 1) := by decide +kernel
theorem d_Mo_near_46 : decode prog_13_method_54_code 46 = .ok (.dload 4, 2) := by decide +kernel
theorem d_Mo_near_48 : decode prog_13_method_54_code 48 = .ok (.dload 4, 2) := by decide +kernel
theorem d_Mo_near_50 : decode prog_13_method_54_code 50 = .ok (.dmul, 1) := by decide +kernel
theorem d_Mo_near_51 : decode prog_13_method_54_code 51 = .ok (.dload 4, 2) := by decide +kernel
theorem d_Mo_near_53 : decode prog_13_method_54_code 53 = .ok (.dmul, 1) := by decide +kernel
theorem d_Mo_near_54 : decode prog_13_method_54_code 54 = .ok (.dmul, 1) := by decide +kernel
theorem d_Mo_near_55 : decode prog_13_method_54_code 55 = .ok (.dadd, 1) := by decide +kernel
theorem d_Mo_near_56 : decode prog_13_method_54_code 56 = .ok (.dstore_n 1, 1) := by decide +kernel
theorem d_Mo_near_57 : decode prog_13_method_54_code 57 = .ok (.iinc 3 1, 3) := by decide +kernel
theorem d_Mo_near_60 : decode prog_13_method_54_code 60 = .ok (.goto (-51), 3) := by decide +kernel
theorem d_Mo_near_63 : decode prog_13_method_54_code 63 = .ok (.dload_n 1, 1) := by decide +kernel
theorem d_Mo_near_64 : decode prog_13_method_54_code 64 = .ok (.dreturn, 1) := by decide +kernel
theorem d_Mo_speed_0 : decode prog_13_method_55_code 0 = .ok (.aload_n 0, 1) := by decide +kernel
theorem d_Mo_speed_1 : decode prog_13_method_55_code 1 = .ok (.iconst 0, 1) := by decide +kernel
theorem d_Mo_speed_2 : decode prog_13_method_55_code 2 = .ok (.putfield 91, 3) := by decide +kernel
theorem d_Mo_speed_5 : decode prog_13_method_55_code 5 = .ok (.iconst 0, 1) := by decide +kernel
theorem d_Mo_speed_6 : decode prog_13_method_55_code 6 = .ok (.istore_n 3, 1) := by decide +kernel
theorem d_Mo_speed_7 : decode prog_13_method_55_code 7 = .ok (.iload_n 3, 1) := by decide +kernel
theorem d_Mo_speed_8 : decode prog_13_method_55_code 8 = .ok (.aload_n 0, 1) := by decide +kernel
theorem d_Mo_speed_9 : decode prog_13_method_55_code 9 = .ok (.getfield 184, 3) := by decide +kernel
theorem d_Mo_speed_12 : decode prog_13_method_55_code 12 = .ok (.if_icmp .ge 46, 3) := by decide +kernel
theorem d_Mo_speed_15 : decode prog_13_method_55_code 15 = .ok (.aload_n 0, 1) := by decide +kernel
theorem d_Mo_speed_16 : decode prog_13_method_55_code 16 = .ok (.getfield 87, 3) := by decide +kernel
theorem d_Mo_speed_19 : decode prog_13_method_55_code 19 = .ok (.ifCond .eq 39, 3) := by decide +kernel
theorem d_Mo_speed_22 : decode prog_13_method_55_code 22 = .ok (.aload_n 0, 1) := by decide +kernel
theorem d_Mo_speed_23 : decode prog_13_method_55_code 23 = .ok (.getfield 54, 3) := by decide +kernel
theorem d_Mo_speed_26 : decode prog_13_method_55_code 26 = .ok (.iload_n 3, 1) := by decide +kernel
theorem d_Mo_speed_27 : decode prog_13_method_55_code 27 = .ok (.iaload, 1) := by decide +kernel
theorem d_Mo_speed_28 : decode prog_13_method_55_code 28 = .ok (.i2d, 1) := by decide +kernel
theorem d_Mo_speed_29 : decode prog_13_method_55_code 29 = .ok (.dload_n 1, 1) := by decide +kernel
theorem d_Mo_speed_30 : decode prog_13_method_55_code 30 = .ok (.dcmp .g, 1) := by decide +kernel
theorem d_Mo_speed_31 : decode prog_13_method_55_code 31 = .ok (.ifCond .gt 21, 3) := by decide +kernel
theorem d_Mo_speed_34 : decode prog_13_method_55_code 34 = .ok (.dload_n 1, 1) := by decide +kernel
theorem d_Mo_speed_35 : decode prog_13_method_55_code 35 = .ok (.aload_n 0, 1) := by decide +kernel
theorem d_Mo_speed_36 : decode prog_13_method_55_code 36 = .ok (.getfield 57, 3) := by decide +kernel
theorem d_Mo_speed_39 : decode prog_13_method_55_code 39 = .ok (.iload_n 3, 1) := by decide +kernel
theorem d_Mo_speed_40 : decode prog_13_method_55_code 40 = .ok (.iaload, 1) := by decide +kernel
theorem d_Mo_speed_41 : decode prog_13_method_55_code 41 = .ok (.i2d, 1) := by decide +kernel
theorem d_Mo_speed_42 : decode prog_13_method_55_code 42 = .ok (.dcmp .g, 1) := by decide +kernel
theorem d_Mo_speed_43 : decode prog_13_method_55_code 43 = .ok (.ifCond .ge 9, 3) := by decide +kernel
theorem d_Mo_speed_46 : decode prog_13_method_55_code 46 = .ok (.aload_n 0, 1) := by decide +kernel
theorem d_Mo_speed_47 : decode prog_13_method_55_code 47 = .ok (.iload_n 3, 1) := by decide +kernel
theorem d_Mo_speed_48 : decode prog_13_method_55_code 48 = .ok (.invokevirtual 244, 3) := by decide +kernel
theorem d_Mo_speed_51 : decode prog_13_method_55_code 51 = .ok (.dreturn, 1) := by decide +kernel
theorem d_Mo_speed_52 : decode prog_13_method_55_code 52 = .ok (.iinc 3 1, 3) := by decide +kernel
theorem d_Mo_speed_55 : decode prog_13_method_55_code 55 = .ok (.goto (-48), 3) := by decide +kernel
theorem d_Mo_speed_58 : decode prog_13_method_55_code 58 = .ok (.dconst 0, 1) := by decide +kernel
theorem d_Mo_speed_59 : decode prog_13_method_55_code 59 = .ok (.dreturn, 1) := by decide +kernel
theorem d_Mo_working_0 : decode prog_13_method_56_code 0 = .ok (.aload_n 0, 1) := by decide +kernel
theorem d_Mo_working_1 : decode prog_13_method_56_code 1 = .ok (.iconst 0, 1) := by decide +kernel
theorem d_Mo_working_2 : decode prog_13_method_56_code 2 = .ok (.putfield 91, 3) := by decide +kernel
theorem d_Mo_working_5 : decode prog_13_method_56_code 5 = .ok (.iload_n 2, 1) := by decide +kernel
theorem d_Mo_working_6 : decode prog_13_method_56_code 6 = .ok (.iconst 0, 1) := by decide +kernel
theorem d_Mo_working_7 : decode prog_13_method_56_code 7 = .ok (.sipush 199, 3) := by decide +kernel
theorem d_Mo_working_10 : decode prog_13_method_56_code 10 = .ok (.invokestatic 149, 3) := by decide +kernel
theorem d_Mo_working_13 : decode prog_13_method_56_code 13 = .ok (.ifCond .ne 5, 3) := by decide +kernel
theorem d_Mo_working_16 : decode prog_13_method_56_code 16 = .ok (.iconst (-1), 1) := by decide +kernel
theorem d_Mo_working_17 : decode prog_13_method_56_code 17 = .ok (.ireturn, 1) := by decide +kernel
theorem d_Mo_working_18 : decode prog_13_method_56_code 18 = .ok (.iload_n 1, 1) := by decide +kernel
theorem d_Mo_working_19 : decode prog_13_method_56_code 19 = .ok (.ifCond .ne 19, 3) := by decide +kernel
theorem d_Mo_working_22 : decode prog_13_method_56_code 22 = .ok (.aload_n 0, 1) := by decide +kernel
theorem d_Mo_working_23 : decode prog_13_method_56_code 23 = .ok (.getfield 87, 3) := by decide +kernel
theorem d_Mo_working_26 : decode prog_13_method_56_code 26 = .ok (.ifCond .eq 12, 3) := by decide +kernel
theorem d_Mo_working_29 : decode prog_13_method_56_code 29 = .ok (.aload_n 0, 1) := by decide +kernel
theorem d_Mo_working_30 : decode prog_13_method_56_code 30 = .ok (.getfield 66, 3) := by decide +kernel
theorem d_Mo_working_33 : decode prog_13_method_56_code 33 = .ok (.iload_n 2, 1) := by decide +kernel
theorem d_Mo_working_34 : decode prog_13_method_56_code 34 = .ok (.iaload, 1) := by decide +kernel
theorem d_Mo_working_35 : decode prog_13_method_56_code 35 = .ok (.goto 25, 3) := by decide +kernel
theorem d_Mo_working_38 : decode prog_13_method_56_code 38 = .ok (.iload_n 1, 1) := by decide +kernel
theorem d_Mo_working_39 : decode prog_13_method_56_code 39 = .ok (.iconst 1, 1) := by decide +kernel
theorem d_Mo_working_40 : decode prog_13_method_56_code 40 = .ok (.if_icmp .ne 19, 3) := by decide +kernel
theorem d_Mo_working_43 : decode prog_13_method_56_code 43 = .ok (.aload_n 0, 1) := by decide +kernel
theorem d_Mo_working_44 : decode prog_13_method_56_code 44 = .ok (.getfield 156, 3) := by decide +kernel
theorem d_Mo_working_47 : decode prog_13_method_56_code 47 = .ok (.ifCond .eq 12, 3) := by decide +kernel
theorem d_Mo_working_50 : decode prog_13_method_56_code 50 = .ok (.aload_n 0, 1) := by decide +kernel
theorem d_Mo_working_51 : decode prog_13_method_56_code 51 = .ok (.getfield 75, 3) := by decide +kernel
theorem d_Mo_working_54 : decode prog_13_method_56_code 54 = .ok (.iload_n 2, 1) := by decide +kernel
theorem d_Mo_working_55 : decode prog_13_method_56_code 55 = .ok (.iaload, 1) := by decide +kernel
theorem d_Mo_working_56 : decode prog_13_method_56_code 56 = .ok (.goto 4, 3) := by decide +kernel
theorem d_Mo_working_59 : decode prog_13_method_56_code 59 = .ok (.iconst (-1), 1) := by decide +kernel
theorem d_Mo_working_60 : decode prog_13_method_56_code 60 = .ok (.ireturn, 1) := by decide +kernel
theorem d_Mo_check_0 : decode prog_13_method_57_code 0 = .ok (.aload_n 0, 1) := by decide +kernel
theorem d_Mo_check_1 : decode prog_13_method_57_code 1 = .ok (.iconst 0, 1) := by decide +kernel
theorem d_Mo_check_2 : decode prog_13_method_57_code 2 = .ok (.putfield 91, 3) := by decide +kernel
theorem d_Mo_check_5 : decode prog_13_method_57_code 5 = .ok (.aload_n 0, 1) := by decide +kernel
theorem d_Mo_check_6 : decode prog_13_method_57_code 6 = .ok (.getfield 87, 3) := by decide +kernel
theorem d_Mo_check_9 : decode prog_13_method_57_code 9 = .ok (.ifCond .eq 7, 3) := by decide +kernel
theorem d_Mo_check_12 : decode prog_13_method_57_code 12 = .ok (.iconst 1, 1) := by decide +kernel
theorem d_Mo_check_13 : decode prog_13_method_57_code 13 = .ok (.goto 4, 3) := by decide +kernel
theorem d_Mo_check_16 : decode prog_13_method_57_code 16 = .ok (.iconst (-1), 1) := by decide +kernel
theorem d_Mo_check_17 : decode prog_13_method_57_code 17 = .ok (.ireturn, 1) := by decide +kernel
section SEG
variable {g : GG} {Q : Option VV → EE → DD → Prop} {D : DD}
theorem s_Mo_nextEvent_0 {x1 : Int}  (h : Sg g M_Mo_nextEvent Q 6 [vR 708, vI x1, vI 201, vI 0] [] D) : Sg g M_Mo_nextEvent Q 0 [vR 708, vI x1, vU, vU] [] D := by
  unfold Sg
  refine q_sipush d_Mo_nextEvent_0 ks_201 ?_
  refine q_istore_n d_Mo_nextEvent_3 (by decide) (L' := [vR 708, vI x1, vI 201, vU]) rfl ?_
  refine q_iconst d_Mo_nextEvent_4 (by decide) ?_
  refine q_istore_n d_Mo_nextEvent_5 (by decide) (L' := [vR 708, vI x1, vI 201, vI 0]) rfl ?_
  exact h
theorem s_Mo_nextEvent_6 {x1 : Int} {x2 : Int} {x3 : Int}  (h : (((D 708 3) ≤ x3 → Q (some (vI x2)) zE D) ∧ (¬ (D 708 3) ≤ x3 → ((0 ≤ x3 ∧ x3 < 12)) ∧ (((D 711 x3) ≤ x1 → Sg g M_Mo_nextEvent Q 43 [vR 708, vI x1, vI x2, vI x3] [] D) ∧ (¬ (D 711 x3) ≤ x1 → ((0 ≤ x3 ∧ x3 < 12)) ∧ ((x2 ≤ (D 711 x3) → Sg g M_Mo_nextEvent Q 43 [vR 708, vI x1, vI x2, vI x3] [] D) ∧ (¬ x2 ≤ (D 711 x3) → ((0 ≤ x3 ∧ x3 < 12)) ∧ Sg g M_Mo_nextEvent Q 44 [vR 708, vI x1, vI x2, vI x3] [vI (D 711 x3)] D))))))) : Sg g M_Mo_nextEvent Q 6 [vR 708, vI x1, vI x2, vI x3] [] D := by
  unfold Sg
  refine q_iload_n d_Mo_nextEvent_6 rfl ?_
  refine q_aload_n d_Mo_nextEvent_7 rfl ?_
  refine p_getI (k := 3) zc_Mo l_Mo_153 fi_Mo_jobs d_Mo_nextEvent_8 zk_708 ?_
  refine q_icmp_ge (tgt := 82) d_Mo_nextEvent_11 (by decide) (fun c1 => ?_) (fun c1 => ?_)
  · have h := h.1 (c1)
    refine q_iload_n d_Mo_nextEvent_82 rfl ?_
    exact q_iret d_Mo_nextEvent_83 (Or.inl rfl) ⟨Nat.le_refl _, Nat.le_refl _⟩ h
  · have h := h.2 (c1)
    obtain ⟨o2, h⟩ := h
    refine q_aload_n d_Mo_nextEvent_14 rfl ?_
    refine p_getR (k := 4) (b := 711) zc_Mo l_Mo_16 fr_Mo_releases d_Mo_nextEvent_15 zk_708 rfl ?_
    refine q_iload_n d_Mo_nextEvent_18 rfl ?_
    refine p_iald d_Mo_nextEvent_19 zk_711 o2 ?_
    refine q_iload_n d_Mo_nextEvent_20 rfl ?_
    refine q_icmp_le (tgt := 43) d_Mo_nextEvent_21 (by decide) (fun c3 => ?_) (fun c3 => ?_)
    · have h := h.1 (c3)
      exact h
    · have h := h.2 (c3)
      obtain ⟨o4, h⟩ := h
      refine q_aload_n d_Mo_nextEvent_24 rfl ?_
      refine p_getR (k := 4) (b := 711) zc_Mo l_Mo_16 fr_Mo_releases d_Mo_nextEvent_25 zk_708 rfl ?_
      refine q_iload_n d_Mo_nextEvent_28 rfl ?_
      refine p_iald d_Mo_nextEvent_29 zk_711 o4 ?_
      refine q_iload_n d_Mo_nextEvent_30 rfl ?_
      refine q_icmp_ge (tgt := 43) d_Mo_nextEvent_31 (by decide) (fun c5 => ?_) (fun c5 => ?_)
      · have h := h.1 (c5)
        exact h
      · have h := h.2 (c5)
        obtain ⟨o6, h⟩ := h
        refine q_aload_n d_Mo_nextEvent_34 rfl ?_
        refine p_getR (k := 4) (b := 711) zc_Mo l_Mo_16 fr_Mo_releases d_Mo_nextEvent_35 zk_708 rfl ?_
        refine q_iload_n d_Mo_nextEvent_38 rfl ?_
        refine p_iald d_Mo_nextEvent_39 zk_711 o6 ?_
        refine q_goto (tgt := 44) d_Mo_nextEvent_40 (by decide) ?_
        exact h
theorem s_Mo_nextEvent_43 {x1 : Int} {x2 : Int} {x3 : Int}  (h : Sg g M_Mo_nextEvent Q 44 [vR 708, vI x1, vI x2, vI x3] [vI x2] D) : Sg g M_Mo_nextEvent Q 43 [vR 708, vI x1, vI x2, vI x3] [] D := by
  unfold Sg
  refine q_iload_n d_Mo_nextEvent_43 rfl ?_
  exact h
theorem s_Mo_nextEvent_44 {x1 : Int} {z2 : VV} {x3 : Int} {y0 : Int}  (h : ((0 ≤ x3 ∧ x3 < 12)) ∧ (((D 712 x3) ≤ x1 → Sg g M_Mo_nextEvent Q 74 [vR 708, vI x1, vI y0, vI x3] [] D) ∧ (¬ (D 712 x3) ≤ x1 → ((0 ≤ x3 ∧ x3 < 12)) ∧ ((y0 ≤ (D 712 x3) → Sg g M_Mo_nextEvent Q 74 [vR 708, vI x1, vI y0, vI x3] [] D) ∧ (¬ y0 ≤ (D 712 x3) → ((0 ≤ x3 ∧ x3 < 12)) ∧ Sg g M_Mo_nextEvent Q 75 [vR 708, vI x1, vI y0, vI x3] [vI (D 712 x3)] D))))) : Sg g M_Mo_nextEvent Q 44 [vR 708, vI x1, z2, vI x3] [vI y0] D := by
  unfold Sg
  refine q_mask [false, false, true, false] (L' := [vR 708, vI x1, vU, vI x3]) rfl ?_
  obtain ⟨o1, h⟩ := h
  refine q_istore_n d_Mo_nextEvent_44 (by decide) (L' := [vR 708, vI x1, vI y0, vI x3]) rfl ?_
  refine q_aload_n d_Mo_nextEvent_45 rfl ?_
  refine p_getR (k := 5) (b := 712) zc_Mo l_Mo_19 fr_Mo_deadlines d_Mo_nextEvent_46 zk_708 rfl ?_
  refine q_iload_n d_Mo_nextEvent_49 rfl ?_
  refine p_iald d_Mo_nextEvent_50 zk_712 o1 ?_
  refine q_iload_n d_Mo_nextEvent_51 rfl ?_
  refine q_icmp_le (tgt := 74) d_Mo_nextEvent_52 (by decide) (fun c2 => ?_) (fun c2 => ?_)
  · have h := h.1 (c2)
    exact h
  · have h := h.2 (c2)
    obtain ⟨o3, h⟩ := h
    refine q_aload_n d_Mo_nextEvent_55 rfl ?_
    refine p_getR (k := 5) (b := 712) zc_Mo l_Mo_19 fr_Mo_deadlines d_Mo_nextEvent_56 zk_708 rfl ?_
    refine q_iload_n d_Mo_nextEvent_59 rfl ?_
    refine p_iald d_Mo_nextEvent_60 zk_712 o3 ?_
    refine q_iload_n d_Mo_nextEvent_61 rfl ?_
    refine q_icmp_ge (tgt := 74) d_Mo_nextEvent_62 (by decide) (fun c4 => ?_) (fun c4 => ?_)
    · have h := h.1 (c4)
      exact h
    · have h := h.2 (c4)
      obtain ⟨o5, h⟩ := h
      refine q_aload_n d_Mo_nextEvent_65 rfl ?_
      refine p_getR (k := 5) (b := 712) zc_Mo l_Mo_19 fr_Mo_deadlines d_Mo_nextEvent_66 zk_708 rfl ?_
      refine q_iload_n d_Mo_nextEvent_69 rfl ?_
      refine p_iald d_Mo_nextEvent_70 zk_712 o5 ?_
      refine q_goto (tgt := 75) d_Mo_nextEvent_71 (by decide) ?_
      exact h
theorem s_Mo_nextEvent_74 {x1 : Int} {x2 : Int} {x3 : Int}  (h : Sg g M_Mo_nextEvent Q 75 [vR 708, vI x1, vI x2, vI x3] [vI x2] D) : Sg g M_Mo_nextEvent Q 74 [vR 708, vI x1, vI x2, vI x3] [] D := by
  unfold Sg
  refine q_iload_n d_Mo_nextEvent_74 rfl ?_
  exact h
theorem s_Mo_nextEvent_75 {x1 : Int} {z2 : VV} {x3 : Int} {y0 : Int}  (h : (R32 (x3 + 1)) ∧ Sg g M_Mo_nextEvent Q 6 [vR 708, vI x1, vI y0, vI (x3 + 1)] [] D) : Sg g M_Mo_nextEvent Q 75 [vR 708, vI x1, z2, vI x3] [vI y0] D := by
  unfold Sg
  refine q_mask [false, false, true, false] (L' := [vR 708, vI x1, vU, vI x3]) rfl ?_
  obtain ⟨o1, h⟩ := h
  refine q_istore_n d_Mo_nextEvent_75 (by decide) (L' := [vR 708, vI x1, vI y0, vI x3]) rfl ?_
  refine q_iinc d_Mo_nextEvent_76 rfl (by decide) o1 (L' := [vR 708, vI x1, vI y0, vI (x3 + 1)]) rfl ?_
  refine q_goto (tgt := 6) d_Mo_nextEvent_79 (by decide) ?_
  exact h
theorem s_Mo_inOrder_0 {x1 : Int} {x2 : Int}  (h : (R32 (x1 + 1)) ∧ Sg g M_Mo_inOrder Q 7 [vR 708, vI x1, vI x2, vI x2, vI (x1 + 1), vU] [] D) : Sg g M_Mo_inOrder Q 0 [vR 708, vI x1, vI x2, vU, vU, vU] [] D := by
  unfold Sg
  obtain ⟨o1, h⟩ := h
  refine q_iload_n d_Mo_inOrder_0 rfl ?_
  refine q_istore_n d_Mo_inOrder_1 (by decide) (L' := [vR 708, vI x1, vI x2, vI x2, vU, vU]) rfl ?_
  refine q_iload_n d_Mo_inOrder_2 rfl ?_
  refine q_iconst d_Mo_inOrder_3 (by decide) ?_
  refine q_iadd d_Mo_inOrder_4 o1 ?_
  refine q_istore d_Mo_inOrder_5 (by decide) (L' := [vR 708, vI x1, vI x2, vI x2, vI (x1 + 1), vU]) rfl ?_
  exact h
theorem s_Mo_inOrder_7 {x1 : Int} {z2 : VV} {x3 : Int} {x4 : Int} {z5 : VV}  (h : ((200 < x4 → Q (some (vI (-1))) zE D) ∧ (¬ 200 < x4 → Sg g M_Mo_inOrder Q 18 [vR 708, vI x1, vU, vI x3, vI x4, vI 0] [] D))) : Sg g M_Mo_inOrder Q 7 [vR 708, vI x1, z2, vI x3, vI x4, z5] [] D := by
  unfold Sg
  refine q_mask [false, false, true, false, false, true] (L' := [vR 708, vI x1, vU, vI x3, vI x4, vU]) rfl ?_
  refine q_iload d_Mo_inOrder_7 rfl ?_
  refine q_sipush d_Mo_inOrder_9 ks_200 ?_
  refine q_icmp_gt (tgt := 86) d_Mo_inOrder_12 (by decide) (fun c1 => ?_) (fun c1 => ?_)
  · have h := h.1 (c1)
    refine q_iconst d_Mo_inOrder_86 (by decide) ?_
    exact q_iret d_Mo_inOrder_87 (Or.inl rfl) ⟨Nat.le_refl _, Nat.le_refl _⟩ h
  · have h := h.2 (c1)
    refine q_iconst d_Mo_inOrder_15 (by decide) ?_
    refine q_istore d_Mo_inOrder_16 (by decide) (L' := [vR 708, vI x1, vU, vI x3, vI x4, vI 0]) rfl ?_
    exact h
theorem s_Mo_inOrder_18 {x1 : Int} {z2 : VV} {x3 : Int} {x4 : Int} {x5 : Int}  (h : (((D 708 3) ≤ x5 → (R32 (x4 + 1)) ∧ Sg g M_Mo_inOrder Q 7 [vR 708, vI x1, vU, vI x3, vI (x4 + 1), vI x5] [] D) ∧ (¬ (D 708 3) ≤ x5 → ((0 ≤ x5 ∧ x5 < 12)) ∧ ((¬ (D 712 x5) = x4 → Sg g M_Mo_inOrder Q 74 [vR 708, vI x1, vU, vI x3, vI x4, vI x5] [] D) ∧ ((D 712 x5) = x4 → ((0 ≤ x5 ∧ x5 < 12)) ∧ ((x1 < (D 711 x5) → Sg g M_Mo_inOrder Q 74 [vR 708, vI x1, vU, vI x3, vI x4, vI x5] [] D) ∧ (¬ x1 < (D 711 x5) → (R32 (230 + x5) ∧ (0 ≤ 230 + x5 ∧ 230 + x5 < 260)) ∧ (((D 710 (230 + x5)) ≤ 0 → Sg g M_Mo_inOrder Q 74 [vR 708, vI x1, vU, vI x3, vI x4, vI x5] [] D) ∧ (¬ (D 710 (230 + x5)) ≤ 0 → ((¬ x3 = 0 → (R32 (x3 + (-1))) ∧ Sg g M_Mo_inOrder Q 74 [vR 708, vI x1, vU, vI (x3 + (-1)), vI x4, vI x5] [] D) ∧ (x3 = 0 → Q (some (vI x5)) zE D))))))))))) : Sg g M_Mo_inOrder Q 18 [vR 708, vI x1, z2, vI x3, vI x4, vI x5] [] D := by
  unfold Sg
  refine q_mask [false, false, true, false, false, false] (L' := [vR 708, vI x1, vU, vI x3, vI x4, vI x5]) rfl ?_
  refine q_iload d_Mo_inOrder_18 rfl ?_
  refine q_aload_n d_Mo_inOrder_20 rfl ?_
  refine p_getI (k := 3) zc_Mo l_Mo_153 fi_Mo_jobs d_Mo_inOrder_21 zk_708 ?_
  refine q_icmp_ge (tgt := 80) d_Mo_inOrder_24 (by decide) (fun c1 => ?_) (fun c1 => ?_)
  · have h := h.1 (c1)
    obtain ⟨o2, h⟩ := h
    refine q_iinc d_Mo_inOrder_80 rfl (by decide) o2 (L' := [vR 708, vI x1, vU, vI x3, vI (x4 + 1), vI x5]) rfl ?_
    refine q_goto (tgt := 7) d_Mo_inOrder_83 (by decide) ?_
    exact h
  · have h := h.2 (c1)
    obtain ⟨o3, h⟩ := h
    refine q_aload_n d_Mo_inOrder_27 rfl ?_
    refine p_getR (k := 5) (b := 712) zc_Mo l_Mo_19 fr_Mo_deadlines d_Mo_inOrder_28 zk_708 rfl ?_
    refine q_iload d_Mo_inOrder_31 rfl ?_
    refine p_iald d_Mo_inOrder_33 zk_712 o3 ?_
    refine q_iload d_Mo_inOrder_34 rfl ?_
    refine q_icmp_ne (tgt := 74) d_Mo_inOrder_36 (by decide) (fun c4 => ?_) (fun c4 => ?_)
    · have h := h.1 (c4)
      exact h
    · have h := h.2 (c4)
      obtain ⟨o5, h⟩ := h
      refine q_aload_n d_Mo_inOrder_39 rfl ?_
      refine p_getR (k := 4) (b := 711) zc_Mo l_Mo_16 fr_Mo_releases d_Mo_inOrder_40 zk_708 rfl ?_
      refine q_iload d_Mo_inOrder_43 rfl ?_
      refine p_iald d_Mo_inOrder_45 zk_711 o5 ?_
      refine q_iload_n d_Mo_inOrder_46 rfl ?_
      refine q_icmp_gt (tgt := 74) d_Mo_inOrder_47 (by decide) (fun c6 => ?_) (fun c6 => ?_)
      · have h := h.1 (c6)
        exact h
      · have h := h.2 (c6)
        obtain ⟨⟨o7, o8⟩, h⟩ := h
        refine q_aload_n d_Mo_inOrder_50 rfl ?_
        refine p_getR (k := 2) (b := 710) zc_Mo l_Mo_13 fr_Mo_sizes d_Mo_inOrder_51 zk_708 rfl ?_
        refine q_sipush d_Mo_inOrder_54 ks_230 ?_
        refine q_iload d_Mo_inOrder_57 rfl ?_
        refine q_iadd d_Mo_inOrder_59 o7 ?_
        refine p_iald d_Mo_inOrder_60 zk_710 o8 ?_
        refine q_if_le (tgt := 74) d_Mo_inOrder_61 (by decide) (fun c9 => ?_) (fun c9 => ?_)
        · have h := h.1 (c9)
          exact h
        · have h := h.2 (c9)
          refine q_iload_n d_Mo_inOrder_64 rfl ?_
          refine q_if_ne (tgt := 71) d_Mo_inOrder_65 (by decide) (fun c10 => ?_) (fun c10 => ?_)
          · have h := h.1 (c10)
            obtain ⟨o11, h⟩ := h
            refine q_iinc d_Mo_inOrder_71 rfl (by decide) o11 (L' := [vR 708, vI x1, vU, vI (x3 + (-1)), vI x4, vI x5]) rfl ?_
            exact h
          · have h := h.2 (c10)
            refine q_iload d_Mo_inOrder_68 rfl ?_
            exact q_iret d_Mo_inOrder_70 (Or.inl rfl) ⟨Nat.le_refl _, Nat.le_refl _⟩ h
theorem s_Mo_inOrder_74 {x1 : Int} {z2 : VV} {x3 : Int} {x4 : Int} {x5 : Int}  (h : (R32 (x5 + 1)) ∧ Sg g M_Mo_inOrder Q 18 [vR 708, vI x1, vU, vI x3, vI x4, vI (x5 + 1)] [] D) : Sg g M_Mo_inOrder Q 74 [vR 708, vI x1, z2, vI x3, vI x4, vI x5] [] D := by
  unfold Sg
  refine q_mask [false, false, true, false, false, false] (L' := [vR 708, vI x1, vU, vI x3, vI x4, vI x5]) rfl ?_
  obtain ⟨o1, h⟩ := h
  refine q_iinc d_Mo_inOrder_74 rfl (by decide) o1 (L' := [vR 708, vI x1, vU, vI x3, vI x4, vI (x5 + 1)]) rfl ?_
  refine q_goto (tgt := 18) d_Mo_inOrder_77 (by decide) ?_
  exact h
theorem s_Mo_findBest_0 {x1 : Int}  (h : (∀ D1, D1 = zw D 710 243 0 → (R32 (x1 + 1)) ∧ Sg g M_Mo_findBest Q 15 [vR 708, vI x1, vI 0, vI (x1 + 1), vU, vU] [] D1)) : Sg g M_Mo_findBest Q 0 [vR 708, vI x1, vU, vU, vU, vU] [] D := by
  unfold Sg
  refine q_iconst d_Mo_findBest_0 (by decide) ?_
  refine q_istore_n d_Mo_findBest_1 (by decide) (L' := [vR 708, vI x1, vI 0, vU, vU, vU]) rfl ?_
  refine q_aload_n d_Mo_findBest_2 rfl ?_
  refine p_getR (k := 2) (b := 710) zc_Mo l_Mo_13 fr_Mo_sizes d_Mo_findBest_3 zk_708 rfl ?_
  refine q_sipush d_Mo_findBest_6 ks_243 ?_
  refine q_iconst d_Mo_findBest_9 (by decide) ?_
  refine p_iast d_Mo_findBest_10 zk_710 (by decide) (fun D1 e2 => ?_)
  have h := h D1 e2
  obtain ⟨o3, h⟩ := h
  refine q_iload_n d_Mo_findBest_11 rfl ?_
  refine q_iconst d_Mo_findBest_12 (by decide) ?_
  refine q_iadd d_Mo_findBest_13 o3 ?_
  refine q_istore_n d_Mo_findBest_14 (by decide) (L' := [vR 708, vI x1, vI 0, vI (x1 + 1), vU, vU]) rfl ?_
  exact h
theorem s_Mo_findBest_15 {x1 : Int} {x2 : Int} {x3 : Int} {z4 : VV} {z5 : VV}  (h : ((200 < x3 → Q (some (vI x2)) zE D) ∧ (¬ 200 < x3 → (∀ D2, D2 = zw D 710 246 0 → Sg g M_Mo_findBest Q 37 [vR 708, vI x1, vI x2, vI x3, vI 0, vI 0] [] D2)))) : Sg g M_Mo_findBest Q 15 [vR 708, vI x1, vI x2, vI x3, z4, z5] [] D := by
  unfold Sg
  refine q_mask [false, false, false, false, true, true] (L' := [vR 708, vI x1, vI x2, vI x3, vU, vU]) rfl ?_
  refine q_iload_n d_Mo_findBest_15 rfl ?_
  refine q_sipush d_Mo_findBest_16 ks_200 ?_
  refine q_icmp_gt (tgt := 215) d_Mo_findBest_19 (by decide) (fun c1 => ?_) (fun c1 => ?_)
  · have h := h.1 (c1)
    refine q_iload_n d_Mo_findBest_215 rfl ?_
    exact q_iret d_Mo_findBest_216 (Or.inl rfl) ⟨Nat.le_refl _, Nat.le_refl _⟩ h
  · have h := h.2 (c1)
    refine q_aload_n d_Mo_findBest_22 rfl ?_
    refine p_getR (k := 2) (b := 710) zc_Mo l_Mo_13 fr_Mo_sizes d_Mo_findBest_23 zk_708 rfl ?_
    refine q_sipush d_Mo_findBest_26 ks_246 ?_
    refine q_iconst d_Mo_findBest_29 (by decide) ?_
    refine p_iast d_Mo_findBest_30 zk_710 (by decide) (fun D2 e3 => ?_)
    have h := h D2 e3
    refine q_iconst d_Mo_findBest_31 (by decide) ?_
    refine q_istore d_Mo_findBest_32 (by decide) (L' := [vR 708, vI x1, vI x2, vI x3, vI 0, vU]) rfl ?_
    refine q_iconst d_Mo_findBest_34 (by decide) ?_
    refine q_istore d_Mo_findBest_35 (by decide) (L' := [vR 708, vI x1, vI x2, vI x3, vI 0, vI 0]) rfl ?_
    exact h
theorem s_Mo_findBest_37 {x1 : Int} {x2 : Int} {x3 : Int} {x4 : Int} {x5 : Int}  (h : (((D 708 3) ≤ x5 → ((x4 = 0 → Sg g M_Mo_findBest Q 209 [vR 708, vI x1, vI x2, vI x3, vI x4, vI x5] [] D) ∧ (¬ x4 = 0 → (((D 710 246) ≤ 0 → Sg g M_Mo_findBest Q 209 [vR 708, vI x1, vI x2, vI x3, vI x4, vI x5] [] D) ∧ (¬ (D 710 246) ≤ 0 → CV g M_Mo_copy [vR 708, vI 246, vI 244] D (fun D' => Sg g M_Mo_findBest Q 150 [vR 708, vI x1, vI x2, vI x3, vI x4, vI x5] [] D')))))) ∧ (¬ (D 708 3) ≤ x5 → ((¬ x4 = 0 → Sg g M_Mo_findBest Q 73 [vR 708, vI x1, vI x2, vI x3, vI x4, vI x5] [] D) ∧ (x4 = 0 → ((0 ≤ x5 ∧ x5 < 12)) ∧ ((¬ (D 712 x5) = x3 → Sg g M_Mo_findBest Q 77 [vR 708, vI x1, vI x2, vI x3, vI x4, vI x5] [] D) ∧ ((D 712 x5) = x3 → ((0 ≤ x5 ∧ x5 < 12)) ∧ ((x1 < (D 711 x5) → Sg g M_Mo_findBest Q 77 [vR 708, vI x1, vI x2, vI x3, vI x4, vI x5] [] D) ∧ (¬ x1 < (D 711 x5) → Sg g M_Mo_findBest Q 73 [vR 708, vI x1, vI x2, vI x3, vI x4, vI x5] [] D))))))))) : Sg g M_Mo_findBest Q 37 [vR 708, vI x1, vI x2, vI x3, vI x4, vI x5] [] D := by
  unfold Sg
  refine q_iload d_Mo_findBest_37 rfl ?_
  refine q_aload_n d_Mo_findBest_39 rfl ?_
  refine p_getI (k := 3) zc_Mo l_Mo_153 fi_Mo_jobs d_Mo_findBest_40 zk_708 ?_
  refine q_icmp_ge (tgt := 124) d_Mo_findBest_43 (by decide) (fun c1 => ?_) (fun c1 => ?_)
  · have h := h.1 (c1)
    refine q_iload d_Mo_findBest_124 rfl ?_
    refine q_if_eq (tgt := 209) d_Mo_findBest_126 (by decide) (fun c2 => ?_) (fun c2 => ?_)
    · have h := h.1 (c2)
      exact h
    · have h := h.2 (c2)
      refine q_aload_n d_Mo_findBest_129 rfl ?_
      refine p_getR (k := 2) (b := 710) zc_Mo l_Mo_13 fr_Mo_sizes d_Mo_findBest_130 zk_708 rfl ?_
      refine q_sipush d_Mo_findBest_133 ks_246 ?_
      refine p_iald d_Mo_findBest_136 zk_710 (by decide) ?_
      refine q_if_le (tgt := 209) d_Mo_findBest_137 (by decide) (fun c3 => ?_) (fun c3 => ?_)
      · have h := h.1 (c3)
        exact h
      · have h := h.2 (c3)
        refine q_aload_n d_Mo_findBest_140 rfl ?_
        refine q_sipush d_Mo_findBest_141 ks_246 ?_
        refine q_sipush d_Mo_findBest_144 ks_244 ?_
        refine p_callV (as := [vI 246, vI 244]) (st := []) (a := 708) mc_Mo_copy mv_Mo_copy l_Mo_106 zc_Mo rfl d_Mo_findBest_147 rfl rfl rfl zk_708 (CV.to ?_)
        exact h
  · have h := h.2 (c1)
    refine q_iload d_Mo_findBest_46 rfl ?_
    refine q_if_ne (tgt := 73) d_Mo_findBest_48 (by decide) (fun c5 => ?_) (fun c5 => ?_)
    · have h := h.1 (c5)
      exact h
    · have h := h.2 (c5)
      obtain ⟨o6, h⟩ := h
      refine q_aload_n d_Mo_findBest_51 rfl ?_
      refine p_getR (k := 5) (b := 712) zc_Mo l_Mo_19 fr_Mo_deadlines d_Mo_findBest_52 zk_708 rfl ?_
      refine q_iload d_Mo_findBest_55 rfl ?_
      refine p_iald d_Mo_findBest_57 zk_712 o6 ?_
      refine q_iload_n d_Mo_findBest_58 rfl ?_
      refine q_icmp_ne (tgt := 77) d_Mo_findBest_59 (by decide) (fun c7 => ?_) (fun c7 => ?_)
      · have h := h.1 (c7)
        exact h
      · have h := h.2 (c7)
        obtain ⟨o8, h⟩ := h
        refine q_aload_n d_Mo_findBest_62 rfl ?_
        refine p_getR (k := 4) (b := 711) zc_Mo l_Mo_16 fr_Mo_releases d_Mo_findBest_63 zk_708 rfl ?_
        refine q_iload d_Mo_findBest_66 rfl ?_
        refine p_iald d_Mo_findBest_68 zk_711 o8 ?_
        refine q_iload_n d_Mo_findBest_69 rfl ?_
        refine q_icmp_gt (tgt := 77) d_Mo_findBest_70 (by decide) (fun c9 => ?_) (fun c9 => ?_)
        · have h := h.1 (c9)
          exact h
        · have h := h.2 (c9)
          exact h
theorem s_Mo_findBest_209 {x1 : Int} {x2 : Int} {x3 : Int} {z4 : VV} {z5 : VV}  (h : (R32 (x3 + 1)) ∧ Sg g M_Mo_findBest Q 15 [vR 708, vI x1, vI x2, vI (x3 + 1), vU, vU] [] D) : Sg g M_Mo_findBest Q 209 [vR 708, vI x1, vI x2, vI x3, z4, z5] [] D := by
  unfold Sg
  refine q_mask [false, false, false, false, true, true] (L' := [vR 708, vI x1, vI x2, vI x3, vU, vU]) rfl ?_
  obtain ⟨o1, h⟩ := h
  refine q_iinc d_Mo_findBest_209 rfl (by decide) o1 (L' := [vR 708, vI x1, vI x2, vI (x3 + 1), vU, vU]) rfl ?_
  refine q_goto (tgt := 15) d_Mo_findBest_212 (by decide) ?_
  exact h
theorem s_Mo_findBest_150 {x1 : Int} {x2 : Int} {x3 : Int} {z4 : VV} {z5 : VV}  (h : CV g M_Mo_multiplyBy [vR 708, vI 244, vI x2] D (fun D' => Sg g M_Mo_findBest Q 158 [vR 708, vI x1, vI x2, vI x3, vU, vU] [] D')) : Sg g M_Mo_findBest Q 150 [vR 708, vI x1, vI x2, vI x3, z4, z5] [] D := by
  unfold Sg
  refine q_mask [false, false, false, false, true, true] (L' := [vR 708, vI x1, vI x2, vI x3, vU, vU]) rfl ?_
  refine q_aload_n d_Mo_findBest_150 rfl ?_
  refine q_sipush d_Mo_findBest_151 ks_244 ?_
  refine q_iload_n d_Mo_findBest_154 rfl ?_
  refine p_callV (as := [vI 244, vI x2]) (st := []) (a := 708) mc_Mo_multiplyBy mv_Mo_multiplyBy l_Mo_124 zc_Mo rfl d_Mo_findBest_155 rfl rfl rfl zk_708 (CV.to ?_)
  exact h
theorem s_Mo_findBest_73 {x1 : Int} {x2 : Int} {x3 : Int} {z4 : VV} {x5 : Int}  (h : Sg g M_Mo_findBest Q 78 [vR 708, vI x1, vI x2, vI x3, vU, vI x5] [vI 1] D) : Sg g M_Mo_findBest Q 73 [vR 708, vI x1, vI x2, vI x3, z4, vI x5] [] D := by
  unfold Sg
  refine q_mask [false, false, false, false, true, false] (L' := [vR 708, vI x1, vI x2, vI x3, vU, vI x5]) rfl ?_
  refine q_iconst d_Mo_findBest_73 (by decide) ?_
  refine q_goto (tgt := 78) d_Mo_findBest_74 (by decide) ?_
  exact h
theorem s_Mo_findBest_77 {x1 : Int} {x2 : Int} {x3 : Int} {z4 : VV} {x5 : Int}  (h : Sg g M_Mo_findBest Q 78 [vR 708, vI x1, vI x2, vI x3, vU, vI x5] [vI 0] D) : Sg g M_Mo_findBest Q 77 [vR 708, vI x1, vI x2, vI x3, z4, vI x5] [] D := by
  unfold Sg
  refine q_mask [false, false, false, false, true, false] (L' := [vR 708, vI x1, vI x2, vI x3, vU, vI x5]) rfl ?_
  refine q_iconst d_Mo_findBest_77 (by decide) ?_
  exact h
theorem s_Mo_findBest_158 {x1 : Int} {x2 : Int} {x3 : Int} {z4 : VV} {z5 : VV}  (h : CV g M_Mo_copy [vR 708, vI 243, vI 245] D (fun D' => Sg g M_Mo_findBest Q 168 [vR 708, vI x1, vI x2, vI x3, vU, vU] [] D')) : Sg g M_Mo_findBest Q 158 [vR 708, vI x1, vI x2, vI x3, z4, z5] [] D := by
  unfold Sg
  refine q_mask [false, false, false, false, true, true] (L' := [vR 708, vI x1, vI x2, vI x3, vU, vU]) rfl ?_
  refine q_aload_n d_Mo_findBest_158 rfl ?_
  refine q_sipush d_Mo_findBest_159 ks_243 ?_
  refine q_sipush d_Mo_findBest_162 ks_245 ?_
  refine p_callV (as := [vI 243, vI 245]) (st := []) (a := 708) mc_Mo_copy mv_Mo_copy l_Mo_106 zc_Mo rfl d_Mo_findBest_165 rfl rfl rfl zk_708 (CV.to ?_)
  exact h
theorem s_Mo_findBest_78 {x1 : Int} {x2 : Int} {x3 : Int} {z4 : VV} {x5 : Int} {y0 : Int}  (h : ((0 ≤ x5 ∧ x5 < 12)) ∧ ((x3 < (D 712 x5) → Sg g M_Mo_findBest Q 118 [vR 708, vI x1, vI x2, vI x3, vI y0, vI x5] [] D) ∧ (¬ x3 < (D 712 x5) → ((0 ≤ x5 ∧ x5 < 12)) ∧ ((x1 < (D 711 x5) → Sg g M_Mo_findBest Q 118 [vR 708, vI x1, vI x2, vI x3, vI y0, vI x5] [] D) ∧ (¬ x1 < (D 711 x5) → (R32 (230 + x5)) ∧ CV g M_Mo_add [vR 708, vI 246, vI (230 + x5), vI 246] D (fun D' => Sg g M_Mo_findBest Q 118 [vR 708, vI x1, vI x2, vI x3, vI y0, vI x5] [] D')))))) : Sg g M_Mo_findBest Q 78 [vR 708, vI x1, vI x2, vI x3, z4, vI x5] [vI y0] D := by
  unfold Sg
  refine q_mask [false, false, false, false, true, false] (L' := [vR 708, vI x1, vI x2, vI x3, vU, vI x5]) rfl ?_
  obtain ⟨o1, h⟩ := h
  refine q_istore d_Mo_findBest_78 (by decide) (L' := [vR 708, vI x1, vI x2, vI x3, vI y0, vI x5]) rfl ?_
  refine q_aload_n d_Mo_findBest_80 rfl ?_
  refine p_getR (k := 5) (b := 712) zc_Mo l_Mo_19 fr_Mo_deadlines d_Mo_findBest_81 zk_708 rfl ?_
  refine q_iload d_Mo_findBest_84 rfl ?_
  refine p_iald d_Mo_findBest_86 zk_712 o1 ?_
  refine q_iload_n d_Mo_findBest_87 rfl ?_
  refine q_icmp_gt (tgt := 118) d_Mo_findBest_88 (by decide) (fun c2 => ?_) (fun c2 => ?_)
  · have h := h.1 (c2)
    exact h
  · have h := h.2 (c2)
    obtain ⟨o3, h⟩ := h
    refine q_aload_n d_Mo_findBest_91 rfl ?_
    refine p_getR (k := 4) (b := 711) zc_Mo l_Mo_16 fr_Mo_releases d_Mo_findBest_92 zk_708 rfl ?_
    refine q_iload d_Mo_findBest_95 rfl ?_
    refine p_iald d_Mo_findBest_97 zk_711 o3 ?_
    refine q_iload_n d_Mo_findBest_98 rfl ?_
    refine q_icmp_gt (tgt := 118) d_Mo_findBest_99 (by decide) (fun c4 => ?_) (fun c4 => ?_)
    · have h := h.1 (c4)
      exact h
    · have h := h.2 (c4)
      obtain ⟨o5, h⟩ := h
      refine q_aload_n d_Mo_findBest_102 rfl ?_
      refine q_sipush d_Mo_findBest_103 ks_246 ?_
      refine q_sipush d_Mo_findBest_106 ks_230 ?_
      refine q_iload d_Mo_findBest_109 rfl ?_
      refine q_iadd d_Mo_findBest_111 o5 ?_
      refine q_sipush d_Mo_findBest_112 ks_246 ?_
      refine p_callV (as := [vI 246, vI (230 + x5), vI 246]) (st := []) (a := 708) mc_Mo_add mv_Mo_add l_Mo_143 zc_Mo rfl d_Mo_findBest_115 rfl rfl rfl zk_708 (CV.to ?_)
      exact h
theorem s_Mo_findBest_168 {x1 : Int} {x2 : Int} {x3 : Int} {z4 : VV} {z5 : VV}  (h : (R32 (x3 - x1)) ∧ CV g M_Mo_multiplyBy [vR 708, vI 245, vI (x3 - x1)] D (fun D' => Sg g M_Mo_findBest Q 178 [vR 708, vI x1, vI x2, vI x3, vU, vU] [] D')) : Sg g M_Mo_findBest Q 168 [vR 708, vI x1, vI x2, vI x3, z4, z5] [] D := by
  unfold Sg
  refine q_mask [false, false, false, false, true, true] (L' := [vR 708, vI x1, vI x2, vI x3, vU, vU]) rfl ?_
  obtain ⟨o1, h⟩ := h
  refine q_aload_n d_Mo_findBest_168 rfl ?_
  refine q_sipush d_Mo_findBest_169 ks_245 ?_
  refine q_iload_n d_Mo_findBest_172 rfl ?_
  refine q_iload_n d_Mo_findBest_173 rfl ?_
  refine q_isub d_Mo_findBest_174 o1 ?_
  refine p_callV (as := [vI 245, vI (x3 - x1)]) (st := []) (a := 708) mc_Mo_multiplyBy mv_Mo_multiplyBy l_Mo_124 zc_Mo rfl d_Mo_findBest_175 rfl rfl rfl zk_708 (CV.to ?_)
  exact h
theorem s_Mo_findBest_118 {x1 : Int} {x2 : Int} {x3 : Int} {x4 : Int} {x5 : Int}  (h : (R32 (x5 + 1)) ∧ Sg g M_Mo_findBest Q 37 [vR 708, vI x1, vI x2, vI x3, vI x4, vI (x5 + 1)] [] D) : Sg g M_Mo_findBest Q 118 [vR 708, vI x1, vI x2, vI x3, vI x4, vI x5] [] D := by
  unfold Sg
  obtain ⟨o1, h⟩ := h
  refine q_iinc d_Mo_findBest_118 rfl (by decide) o1 (L' := [vR 708, vI x1, vI x2, vI x3, vI x4, vI (x5 + 1)]) rfl ?_
  refine q_goto (tgt := 37) d_Mo_findBest_121 (by decide) ?_
  exact h
theorem s_Mo_findBest_178 {x1 : Int} {x2 : Int} {x3 : Int} {z4 : VV} {z5 : VV}  (h : ((x2 = 0 → Sg g M_Mo_findBest Q 195 [vR 708, vI x1, vI x2, vI x3, vU, vU] [] D) ∧ (¬ x2 = 0 → CI g M_Mo_order [vR 708, vI 244, vI 245] D (fun v2 D' => Sg g M_Mo_findBest Q 192 [vR 708, vI x1, vI x2, vI x3, vU, vU] [vI v2] D')))) : Sg g M_Mo_findBest Q 178 [vR 708, vI x1, vI x2, vI x3, z4, z5] [] D := by
  unfold Sg
  refine q_mask [false, false, false, false, true, true] (L' := [vR 708, vI x1, vI x2, vI x3, vU, vU]) rfl ?_
  refine q_iload_n d_Mo_findBest_178 rfl ?_
  refine q_if_eq (tgt := 195) d_Mo_findBest_179 (by decide) (fun c1 => ?_) (fun c1 => ?_)
  · have h := h.1 (c1)
    exact h
  · have h := h.2 (c1)
    refine q_aload_n d_Mo_findBest_182 rfl ?_
    refine q_sipush d_Mo_findBest_183 ks_244 ?_
    refine q_sipush d_Mo_findBest_186 ks_245 ?_
    refine p_callV (as := [vI 244, vI 245]) (st := []) (a := 708) mc_Mo_order mv_Mo_order l_Mo_117 zc_Mo rfl d_Mo_findBest_189 rfl rfl rfl zk_708 (CI.to ?_)
    exact h
theorem s_Mo_findBest_195 {x1 : Int} {z2 : VV} {x3 : Int} {z4 : VV} {z5 : VV}  (h : CV g M_Mo_copy [vR 708, vI 246, vI 243] D (fun D' => Sg g M_Mo_findBest Q 205 [vR 708, vI x1, vU, vI x3, vU, vU] [] D')) : Sg g M_Mo_findBest Q 195 [vR 708, vI x1, z2, vI x3, z4, z5] [] D := by
  unfold Sg
  refine q_mask [false, false, true, false, true, true] (L' := [vR 708, vI x1, vU, vI x3, vU, vU]) rfl ?_
  refine q_aload_n d_Mo_findBest_195 rfl ?_
  refine q_sipush d_Mo_findBest_196 ks_246 ?_
  refine q_sipush d_Mo_findBest_199 ks_243 ?_
  refine p_callV (as := [vI 246, vI 243]) (st := []) (a := 708) mc_Mo_copy mv_Mo_copy l_Mo_106 zc_Mo rfl d_Mo_findBest_202 rfl rfl rfl zk_708 (CV.to ?_)
  exact h
theorem s_Mo_findBest_192 {x1 : Int} {x2 : Int} {x3 : Int} {z4 : VV} {z5 : VV} {y0 : Int}  (h : ((y0 ≤ 0 → Sg g M_Mo_findBest Q 209 [vR 708, vI x1, vI x2, vI x3, vU, vU] [] D) ∧ (¬ y0 ≤ 0 → Sg g M_Mo_findBest Q 195 [vR 708, vI x1, vI x2, vI x3, vU, vU] [] D))) : Sg g M_Mo_findBest Q 192 [vR 708, vI x1, vI x2, vI x3, z4, z5] [vI y0] D := by
  unfold Sg
  refine q_mask [false, false, false, false, true, true] (L' := [vR 708, vI x1, vI x2, vI x3, vU, vU]) rfl ?_
  refine q_if_le (tgt := 209) d_Mo_findBest_192 (by decide) (fun c1 => ?_) (fun c1 => ?_)
  · have h := h.1 (c1)
    exact h
  · have h := h.2 (c1)
    exact h
theorem s_Mo_findBest_205 {x1 : Int} {z2 : VV} {x3 : Int} {z4 : VV} {z5 : VV}  (h : (R32 (x3 - x1)) ∧ Sg g M_Mo_findBest Q 209 [vR 708, vI x1, vI (x3 - x1), vI x3, vU, vU] [] D) : Sg g M_Mo_findBest Q 205 [vR 708, vI x1, z2, vI x3, z4, z5] [] D := by
  unfold Sg
  refine q_mask [false, false, true, false, true, true] (L' := [vR 708, vI x1, vU, vI x3, vU, vU]) rfl ?_
  obtain ⟨o1, h⟩ := h
  refine q_iload_n d_Mo_findBest_205 rfl ?_
  refine q_iload_n d_Mo_findBest_206 rfl ?_
  refine q_isub d_Mo_findBest_207 o1 ?_
  refine q_istore_n d_Mo_findBest_208 (by decide) (L' := [vR 708, vI x1, vI (x3 - x1), vI x3, vU, vU]) rfl ?_
  exact h
theorem s_Mo_workAhead_0 {x1 : Int} {x2 : Int} {x3 : Int}  (h : Sg g M_Mo_workAhead Q 3 [vR 708, vI x1, vI x2, vI x3, vI 0] [] D) : Sg g M_Mo_workAhead Q 0 [vR 708, vI x1, vI x2, vI x3, vU] [] D := by
  unfold Sg
  refine q_iconst d_Mo_workAhead_0 (by decide) ?_
  refine q_istore d_Mo_workAhead_1 (by decide) (L' := [vR 708, vI x1, vI x2, vI x3, vI 0]) rfl ?_
  exact h
theorem s_Mo_workAhead_3 {x1 : Int} {x2 : Int} {x3 : Int} {x4 : Int}  (h : (((D 708 3) ≤ x4 → CV g M_Mo_multiplyBy [vR 708, vI 242, vI x3] D (fun D' => Sg g M_Mo_workAhead Q 37 [vR 708, vI x1, vI x2, vI x3, vI x4] [] D')) ∧ (¬ (D 708 3) ≤ x4 → (R32 (230 + x4)) ∧ CV g M_Mo_multiplyBy [vR 708, vI (230 + x4), vI x3] D (fun D' => Sg g M_Mo_workAhead Q 23 [vR 708, vI x1, vI x2, vI x3, vI x4] [] D')))) : Sg g M_Mo_workAhead Q 3 [vR 708, vI x1, vI x2, vI x3, vI x4] [] D := by
  unfold Sg
  refine q_iload d_Mo_workAhead_3 rfl ?_
  refine q_aload_n d_Mo_workAhead_5 rfl ?_
  refine p_getI (k := 3) zc_Mo l_Mo_153 fi_Mo_jobs d_Mo_workAhead_6 zk_708 ?_
  refine q_icmp_ge (tgt := 29) d_Mo_workAhead_9 (by decide) (fun c1 => ?_) (fun c1 => ?_)
  · have h := h.1 (c1)
    refine q_aload_n d_Mo_workAhead_29 rfl ?_
    refine q_sipush d_Mo_workAhead_30 ks_242 ?_
    refine q_iload_n d_Mo_workAhead_33 rfl ?_
    refine p_callV (as := [vI 242, vI x3]) (st := []) (a := 708) mc_Mo_multiplyBy mv_Mo_multiplyBy l_Mo_124 zc_Mo rfl d_Mo_workAhead_34 rfl rfl rfl zk_708 (CV.to ?_)
    exact h
  · have h := h.2 (c1)
    obtain ⟨o3, h⟩ := h
    refine q_aload_n d_Mo_workAhead_12 rfl ?_
    refine q_sipush d_Mo_workAhead_13 ks_230 ?_
    refine q_iload d_Mo_workAhead_16 rfl ?_
    refine q_iadd d_Mo_workAhead_18 o3 ?_
    refine q_iload_n d_Mo_workAhead_19 rfl ?_
    refine p_callV (as := [vI (230 + x4), vI x3]) (st := []) (a := 708) mc_Mo_multiplyBy mv_Mo_multiplyBy l_Mo_124 zc_Mo rfl d_Mo_workAhead_20 rfl rfl rfl zk_708 (CV.to ?_)
    exact h
theorem s_Mo_workAhead_37 {x1 : Int} {x2 : Int} {z3 : VV} {z4 : VV}  (h : Sg g M_Mo_workAhead Q 40 [vR 708, vI x1, vI x2, vU, vI 0] [] D) : Sg g M_Mo_workAhead Q 37 [vR 708, vI x1, vI x2, z3, z4] [] D := by
  unfold Sg
  refine q_mask [false, false, false, true, true] (L' := [vR 708, vI x1, vI x2, vU, vU]) rfl ?_
  refine q_iconst d_Mo_workAhead_37 (by decide) ?_
  refine q_istore d_Mo_workAhead_38 (by decide) (L' := [vR 708, vI x1, vI x2, vU, vI 0]) rfl ?_
  exact h
theorem s_Mo_workAhead_23 {x1 : Int} {x2 : Int} {x3 : Int} {x4 : Int}  (h : (R32 (x4 + 1)) ∧ Sg g M_Mo_workAhead Q 3 [vR 708, vI x1, vI x2, vI x3, vI (x4 + 1)] [] D) : Sg g M_Mo_workAhead Q 23 [vR 708, vI x1, vI x2, vI x3, vI x4] [] D := by
  unfold Sg
  obtain ⟨o1, h⟩ := h
  refine q_iinc d_Mo_workAhead_23 rfl (by decide) o1 (L' := [vR 708, vI x1, vI x2, vI x3, vI (x4 + 1)]) rfl ?_
  refine q_goto (tgt := 3) d_Mo_workAhead_26 (by decide) ?_
  exact h
theorem s_Mo_workAhead_40 {x1 : Int} {x2 : Int} {z3 : VV} {x4 : Int}  (h : (R32 (x2 - x1)) ∧ (((x2 - x1) ≤ x4 → CV g M_Mo_copy [vR 708, vI 243, vI 246] D (fun D' => Sg g M_Mo_workAhead Q 80 [vR 708, vI x1, vI x2, vU, vI x4] [] D')) ∧ (¬ (x2 - x1) ≤ x4 → (R32 (x1 + x4)) ∧ CI g M_Mo_whoAt [vR 708, vI x1, vI x4] D (fun v5 D' => Sg g M_Mo_workAhead Q 63 [vR 708, vI x1, vI x2, vU, vI x4] [vI v5, vI (x1 + x4), vR 730] D')))) : Sg g M_Mo_workAhead Q 40 [vR 708, vI x1, vI x2, z3, vI x4] [] D := by
  unfold Sg
  refine q_mask [false, false, false, true, false] (L' := [vR 708, vI x1, vI x2, vU, vI x4]) rfl ?_
  obtain ⟨o1, h⟩ := h
  refine q_iload d_Mo_workAhead_40 rfl ?_
  refine q_iload_n d_Mo_workAhead_42 rfl ?_
  refine q_iload_n d_Mo_workAhead_43 rfl ?_
  refine q_isub d_Mo_workAhead_44 o1 ?_
  refine q_icmp_ge (tgt := 70) d_Mo_workAhead_45 (by decide) (fun c2 => ?_) (fun c2 => ?_)
  · have h := h.1 (c2)
    refine q_aload_n d_Mo_workAhead_70 rfl ?_
    refine q_sipush d_Mo_workAhead_71 ks_243 ?_
    refine q_sipush d_Mo_workAhead_74 ks_246 ?_
    refine p_callV (as := [vI 243, vI 246]) (st := []) (a := 708) mc_Mo_copy mv_Mo_copy l_Mo_106 zc_Mo rfl d_Mo_workAhead_77 rfl rfl rfl zk_708 (CV.to ?_)
    exact h
  · have h := h.2 (c2)
    obtain ⟨o4, h⟩ := h
    refine q_aload_n d_Mo_workAhead_48 rfl ?_
    refine p_getR (k := 29) (b := 730) zc_Mo l_Mo_75 fr_Mo_aheadWorks d_Mo_workAhead_49 zk_708 rfl ?_
    refine q_iload_n d_Mo_workAhead_52 rfl ?_
    refine q_iload d_Mo_workAhead_53 rfl ?_
    refine q_iadd d_Mo_workAhead_55 o4 ?_
    refine q_aload_n d_Mo_workAhead_56 rfl ?_
    refine q_iload_n d_Mo_workAhead_57 rfl ?_
    refine q_iload d_Mo_workAhead_58 rfl ?_
    refine p_callV (as := [vI x1, vI x4]) (st := [vI (x1 + x4), vR 730]) (a := 708) mc_Mo_whoAt mv_Mo_whoAt l_Mo_207 zc_Mo rfl d_Mo_workAhead_60 rfl rfl rfl zk_708 (CI.to ?_)
    exact h
theorem s_Mo_workAhead_80 {x1 : Int} {x2 : Int} {z3 : VV} {z4 : VV}  (h : (R32 (x2 - x1)) ∧ CV g M_Mo_multiplyBy [vR 708, vI 246, vI (x2 - x1)] D (fun D' => Sg g M_Mo_workAhead Q 90 [vR 708, vI x1, vI x2, vU, vU] [] D')) : Sg g M_Mo_workAhead Q 80 [vR 708, vI x1, vI x2, z3, z4] [] D := by
  unfold Sg
  refine q_mask [false, false, false, true, true] (L' := [vR 708, vI x1, vI x2, vU, vU]) rfl ?_
  obtain ⟨o1, h⟩ := h
  refine q_aload_n d_Mo_workAhead_80 rfl ?_
  refine q_sipush d_Mo_workAhead_81 ks_246 ?_
  refine q_iload_n d_Mo_workAhead_84 rfl ?_
  refine q_iload_n d_Mo_workAhead_85 rfl ?_
  refine q_isub d_Mo_workAhead_86 o1 ?_
  refine p_callV (as := [vI 246, vI (x2 - x1)]) (st := []) (a := 708) mc_Mo_multiplyBy mv_Mo_multiplyBy l_Mo_124 zc_Mo rfl d_Mo_workAhead_87 rfl rfl rfl zk_708 (CV.to ?_)
  exact h
theorem s_Mo_workAhead_63 {x1 : Int} {x2 : Int} {z3 : VV} {x4 : Int} {y0 : Int} {y1 : Int}  (h : ((0 ≤ y1 ∧ y1 < 200)) ∧ (∀ D2, D2 = zw D 730 y1 y0 → (R32 (x4 + 1)) ∧ Sg g M_Mo_workAhead Q 40 [vR 708, vI x1, vI x2, vU, vI (x4 + 1)] [] D2)) : Sg g M_Mo_workAhead Q 63 [vR 708, vI x1, vI x2, z3, vI x4] [vI y0, vI y1, vR 730] D := by
  unfold Sg
  refine q_mask [false, false, false, true, false] (L' := [vR 708, vI x1, vI x2, vU, vI x4]) rfl ?_
  obtain ⟨o1, h⟩ := h
  refine p_iast d_Mo_workAhead_63 zk_730 o1 (fun D2 e3 => ?_)
  have h := h D2 e3
  obtain ⟨o4, h⟩ := h
  refine q_iinc d_Mo_workAhead_64 rfl (by decide) o4 (L' := [vR 708, vI x1, vI x2, vU, vI (x4 + 1)]) rfl ?_
  refine q_goto (tgt := 40) d_Mo_workAhead_67 (by decide) ?_
  exact h
theorem s_Mo_workAhead_90 {x1 : Int} {z2 : VV} {z3 : VV} {z4 : VV}  (h : (∀ D1, D1 = zw D 710 247 0 → CI g M_Mo_inOrder [vR 708, vI x1, vI 0] D1 (fun v3 D' => Sg g M_Mo_workAhead Q 105 [vR 708, vI x1, vU, vU, vU] [vI v3] D'))) : Sg g M_Mo_workAhead Q 90 [vR 708, vI x1, z2, z3, z4] [] D := by
  unfold Sg
  refine q_mask [false, false, true, true, true] (L' := [vR 708, vI x1, vU, vU, vU]) rfl ?_
  refine q_aload_n d_Mo_workAhead_90 rfl ?_
  refine p_getR (k := 2) (b := 710) zc_Mo l_Mo_13 fr_Mo_sizes d_Mo_workAhead_91 zk_708 rfl ?_
  refine q_sipush d_Mo_workAhead_94 ks_247 ?_
  refine q_iconst d_Mo_workAhead_97 (by decide) ?_
  refine p_iast d_Mo_workAhead_98 zk_710 (by decide) (fun D1 e2 => ?_)
  have h := h D1 e2
  refine q_aload_n d_Mo_workAhead_99 rfl ?_
  refine q_iload_n d_Mo_workAhead_100 rfl ?_
  refine q_iconst d_Mo_workAhead_101 (by decide) ?_
  refine p_callV (as := [vI x1, vI 0]) (st := []) (a := 708) mc_Mo_inOrder mv_Mo_inOrder l_Mo_210 zc_Mo rfl d_Mo_workAhead_102 rfl rfl rfl zk_708 (CI.to ?_)
  exact h
theorem s_Mo_workAhead_105 {x1 : Int} {z2 : VV} {z3 : VV} {z4 : VV} {y0 : Int}  (h : Sg g M_Mo_workAhead Q 107 [vR 708, vI x1, vU, vU, vI y0] [] D) : Sg g M_Mo_workAhead Q 105 [vR 708, vI x1, z2, z3, z4] [vI y0] D := by
  unfold Sg
  refine q_mask [false, false, true, true, true] (L' := [vR 708, vI x1, vU, vU, vU]) rfl ?_
  refine q_istore d_Mo_workAhead_105 (by decide) (L' := [vR 708, vI x1, vU, vU, vI y0]) rfl ?_
  exact h
theorem s_Mo_workAhead_107 {x1 : Int} {z2 : VV} {z3 : VV} {x4 : Int}  (h : ((x4 < 0 → Q none zE D) ∧ (¬ x4 < 0 → (((D 710 246) ≤ 0 → Q none zE D) ∧ (¬ (D 710 246) ≤ 0 → (R32 (230 + x4)) ∧ CI g M_Mo_order [vR 708, vI (230 + x4), vI 246] D (fun v4 D' => Sg g M_Mo_workAhead Q 136 [vR 708, vI x1, vU, vU, vI x4] [vI v4] D')))))) : Sg g M_Mo_workAhead Q 107 [vR 708, vI x1, z2, z3, vI x4] [] D := by
  unfold Sg
  refine q_mask [false, false, true, true, false] (L' := [vR 708, vI x1, vU, vU, vI x4]) rfl ?_
  refine q_iload d_Mo_workAhead_107 rfl ?_
  refine q_if_lt (tgt := 295) d_Mo_workAhead_109 (by decide) (fun c1 => ?_) (fun c1 => ?_)
  · have h := h.1 (c1)
    exact q_vret d_Mo_workAhead_295 rfl ⟨Nat.le_refl _, Nat.le_refl _⟩ h
  · have h := h.2 (c1)
    refine q_aload_n d_Mo_workAhead_112 rfl ?_
    refine p_getR (k := 2) (b := 710) zc_Mo l_Mo_13 fr_Mo_sizes d_Mo_workAhead_113 zk_708 rfl ?_
    refine q_sipush d_Mo_workAhead_116 ks_246 ?_
    refine p_iald d_Mo_workAhead_119 zk_710 (by decide) ?_
    refine q_if_le (tgt := 295) d_Mo_workAhead_120 (by decide) (fun c2 => ?_) (fun c2 => ?_)
    · have h := h.1 (c2)
      exact q_vret d_Mo_workAhead_295 rfl ⟨Nat.le_refl _, Nat.le_refl _⟩ h
    · have h := h.2 (c2)
      obtain ⟨o3, h⟩ := h
      refine q_aload_n d_Mo_workAhead_123 rfl ?_
      refine q_sipush d_Mo_workAhead_124 ks_230 ?_
      refine q_iload d_Mo_workAhead_127 rfl ?_
      refine q_iadd d_Mo_workAhead_129 o3 ?_
      refine q_sipush d_Mo_workAhead_130 ks_246 ?_
      refine p_callV (as := [vI (230 + x4), vI 246]) (st := []) (a := 708) mc_Mo_order mv_Mo_order l_Mo_117 zc_Mo rfl d_Mo_workAhead_133 rfl rfl rfl zk_708 (CI.to ?_)
      exact h
theorem s_Mo_workAhead_136 {x1 : Int} {z2 : VV} {z3 : VV} {x4 : Int} {y0 : Int}  (h : ((0 < y0 → (R32 (230 + x4) ∧ R32 (230 + x4)) ∧ CV g M_Mo_subtract [vR 708, vI (230 + x4), vI 246, vI (230 + x4)] D (fun D' => Sg g M_Mo_workAhead Q 275 [vR 708, vI x1, vU, vU, vI x4] [] D')) ∧ (¬ 0 < y0 → (R32 (230 + x4)) ∧ CV g M_Mo_add [vR 708, vI 247, vI (230 + x4), vI 247] D (fun D' => Sg g M_Mo_workAhead Q 155 [vR 708, vI x1, vU, vU, vI x4] [] D')))) : Sg g M_Mo_workAhead Q 136 [vR 708, vI x1, z2, z3, vI x4] [vI y0] D := by
  unfold Sg
  refine q_mask [false, false, true, true, false] (L' := [vR 708, vI x1, vU, vU, vI x4]) rfl ?_
  refine q_if_gt (tgt := 256) d_Mo_workAhead_136 (by decide) (fun c1 => ?_) (fun c1 => ?_)
  · have h := h.1 (c1)
    obtain ⟨⟨o2, o3⟩, h⟩ := h
    refine q_aload_n d_Mo_workAhead_256 rfl ?_
    refine q_sipush d_Mo_workAhead_257 ks_230 ?_
    refine q_iload d_Mo_workAhead_260 rfl ?_
    refine q_iadd d_Mo_workAhead_262 o2 ?_
    refine q_sipush d_Mo_workAhead_263 ks_246 ?_
    refine q_sipush d_Mo_workAhead_266 ks_230 ?_
    refine q_iload d_Mo_workAhead_269 rfl ?_
    refine q_iadd d_Mo_workAhead_271 o3 ?_
    refine p_callV (as := [vI (230 + x4), vI 246, vI (230 + x4)]) (st := []) (a := 708) mc_Mo_subtract mv_Mo_subtract l_Mo_120 zc_Mo rfl d_Mo_workAhead_272 rfl rfl rfl zk_708 (CV.to ?_)
    exact h
  · have h := h.2 (c1)
    obtain ⟨o5, h⟩ := h
    refine q_aload_n d_Mo_workAhead_139 rfl ?_
    refine q_sipush d_Mo_workAhead_140 ks_247 ?_
    refine q_sipush d_Mo_workAhead_143 ks_230 ?_
    refine q_iload d_Mo_workAhead_146 rfl ?_
    refine q_iadd d_Mo_workAhead_148 o5 ?_
    refine q_sipush d_Mo_workAhead_149 ks_247 ?_
    refine p_callV (as := [vI 247, vI (230 + x4), vI 247]) (st := []) (a := 708) mc_Mo_add mv_Mo_add l_Mo_143 zc_Mo rfl d_Mo_workAhead_152 rfl rfl rfl zk_708 (CV.to ?_)
    exact h
theorem s_Mo_workAhead_275 {x1 : Int} {z2 : VV} {z3 : VV} {z4 : VV}  (h : (∀ D1, D1 = zw D 710 246 0 → Sg g M_Mo_workAhead Q 284 [vR 708, vI x1, vU, vU, vU] [] D1)) : Sg g M_Mo_workAhead Q 275 [vR 708, vI x1, z2, z3, z4] [] D := by
  unfold Sg
  refine q_mask [false, false, true, true, true] (L' := [vR 708, vI x1, vU, vU, vU]) rfl ?_
  refine q_aload_n d_Mo_workAhead_275 rfl ?_
  refine p_getR (k := 2) (b := 710) zc_Mo l_Mo_13 fr_Mo_sizes d_Mo_workAhead_276 zk_708 rfl ?_
  refine q_sipush d_Mo_workAhead_279 ks_246 ?_
  refine q_iconst d_Mo_workAhead_282 (by decide) ?_
  refine p_iast d_Mo_workAhead_283 zk_710 (by decide) (fun D1 e2 => ?_)
  have h := h D1 e2
  exact h
theorem s_Mo_workAhead_155 {x1 : Int} {z2 : VV} {z3 : VV} {x4 : Int}  (h : (R32 (230 + x4)) ∧ CV g M_Mo_subtract [vR 708, vI 246, vI (230 + x4), vI 246] D (fun D' => Sg g M_Mo_workAhead Q 171 [vR 708, vI x1, vU, vU, vI x4] [] D')) : Sg g M_Mo_workAhead Q 155 [vR 708, vI x1, z2, z3, vI x4] [] D := by
  unfold Sg
  refine q_mask [false, false, true, true, false] (L' := [vR 708, vI x1, vU, vU, vI x4]) rfl ?_
  obtain ⟨o1, h⟩ := h
  refine q_aload_n d_Mo_workAhead_155 rfl ?_
  refine q_sipush d_Mo_workAhead_156 ks_246 ?_
  refine q_sipush d_Mo_workAhead_159 ks_230 ?_
  refine q_iload d_Mo_workAhead_162 rfl ?_
  refine q_iadd d_Mo_workAhead_164 o1 ?_
  refine q_sipush d_Mo_workAhead_165 ks_246 ?_
  refine p_callV (as := [vI 246, vI (230 + x4), vI 246]) (st := []) (a := 708) mc_Mo_subtract mv_Mo_subtract l_Mo_120 zc_Mo rfl d_Mo_workAhead_168 rfl rfl rfl zk_708 (CV.to ?_)
  exact h
theorem s_Mo_workAhead_284 {x1 : Int} {z2 : VV} {z3 : VV} {z4 : VV}  (h : CI g M_Mo_inOrder [vR 708, vI x1, vI 0] D (fun v1 D' => Sg g M_Mo_workAhead Q 290 [vR 708, vI x1, vU, vU, vU] [vI v1] D')) : Sg g M_Mo_workAhead Q 284 [vR 708, vI x1, z2, z3, z4] [] D := by
  unfold Sg
  refine q_mask [false, false, true, true, true] (L' := [vR 708, vI x1, vU, vU, vU]) rfl ?_
  refine q_aload_n d_Mo_workAhead_284 rfl ?_
  refine q_iload_n d_Mo_workAhead_285 rfl ?_
  refine q_iconst d_Mo_workAhead_286 (by decide) ?_
  refine p_callV (as := [vI x1, vI 0]) (st := []) (a := 708) mc_Mo_inOrder mv_Mo_inOrder l_Mo_210 zc_Mo rfl d_Mo_workAhead_287 rfl rfl rfl zk_708 (CI.to ?_)
  exact h
theorem s_Mo_workAhead_171 {x1 : Int} {z2 : VV} {z3 : VV} {x4 : Int}  (h : (R32 (230 + x4) ∧ (0 ≤ 230 + x4 ∧ 230 + x4 < 260)) ∧ (∀ D3, D3 = zw D 710 (230 + x4) 0 → CV g M_Mo_copy [vR 708, vI 243, vI 244] D3 (fun D' => Sg g M_Mo_workAhead Q 193 [vR 708, vI x1, vU, vU, vI x4] [] D'))) : Sg g M_Mo_workAhead Q 171 [vR 708, vI x1, z2, z3, vI x4] [] D := by
  unfold Sg
  refine q_mask [false, false, true, true, false] (L' := [vR 708, vI x1, vU, vU, vI x4]) rfl ?_
  obtain ⟨⟨o1, o2⟩, h⟩ := h
  refine q_aload_n d_Mo_workAhead_171 rfl ?_
  refine p_getR (k := 2) (b := 710) zc_Mo l_Mo_13 fr_Mo_sizes d_Mo_workAhead_172 zk_708 rfl ?_
  refine q_sipush d_Mo_workAhead_175 ks_230 ?_
  refine q_iload d_Mo_workAhead_178 rfl ?_
  refine q_iadd d_Mo_workAhead_180 o1 ?_
  refine q_iconst d_Mo_workAhead_181 (by decide) ?_
  refine p_iast d_Mo_workAhead_182 zk_710 o2 (fun D3 e4 => ?_)
  have h := h D3 e4
  refine q_aload_n d_Mo_workAhead_183 rfl ?_
  refine q_sipush d_Mo_workAhead_184 ks_243 ?_
  refine q_sipush d_Mo_workAhead_187 ks_244 ?_
  refine p_callV (as := [vI 243, vI 244]) (st := []) (a := 708) mc_Mo_copy mv_Mo_copy l_Mo_106 zc_Mo rfl d_Mo_workAhead_190 rfl rfl rfl zk_708 (CV.to ?_)
  exact h
theorem s_Mo_workAhead_290 {x1 : Int} {z2 : VV} {z3 : VV} {z4 : VV} {y0 : Int}  (h : Sg g M_Mo_workAhead Q 107 [vR 708, vI x1, vU, vU, vI y0] [] D) : Sg g M_Mo_workAhead Q 290 [vR 708, vI x1, z2, z3, z4] [vI y0] D := by
  unfold Sg
  refine q_mask [false, false, true, true, true] (L' := [vR 708, vI x1, vU, vU, vU]) rfl ?_
  refine q_istore d_Mo_workAhead_290 (by decide) (L' := [vR 708, vI x1, vU, vU, vI y0]) rfl ?_
  refine q_goto (tgt := 107) d_Mo_workAhead_292 (by decide) ?_
  exact h
theorem s_Mo_workAhead_193 {x1 : Int} {z2 : VV} {z3 : VV} {x4 : Int}  (h : CV g M_Mo_multiplyBy [vR 708, vI 244, vI x1] D (fun D' => Sg g M_Mo_workAhead Q 201 [vR 708, vI x1, vU, vU, vI x4] [] D')) : Sg g M_Mo_workAhead Q 193 [vR 708, vI x1, z2, z3, vI x4] [] D := by
  unfold Sg
  refine q_mask [false, false, true, true, false] (L' := [vR 708, vI x1, vU, vU, vI x4]) rfl ?_
  refine q_aload_n d_Mo_workAhead_193 rfl ?_
  refine q_sipush d_Mo_workAhead_194 ks_244 ?_
  refine q_iload_n d_Mo_workAhead_197 rfl ?_
  refine p_callV (as := [vI 244, vI x1]) (st := []) (a := 708) mc_Mo_multiplyBy mv_Mo_multiplyBy l_Mo_124 zc_Mo rfl d_Mo_workAhead_198 rfl rfl rfl zk_708 (CV.to ?_)
  exact h
theorem s_Mo_workAhead_201 {x1 : Int} {z2 : VV} {z3 : VV} {x4 : Int}  (h : CV g M_Mo_add [vR 708, vI 244, vI 247, vI 244] D (fun D' => Sg g M_Mo_workAhead Q 214 [vR 708, vI x1, vU, vU, vI x4] [] D')) : Sg g M_Mo_workAhead Q 201 [vR 708, vI x1, z2, z3, vI x4] [] D := by
  unfold Sg
  refine q_mask [false, false, true, true, false] (L' := [vR 708, vI x1, vU, vU, vI x4]) rfl ?_
  refine q_aload_n d_Mo_workAhead_201 rfl ?_
  refine q_sipush d_Mo_workAhead_202 ks_244 ?_
  refine q_sipush d_Mo_workAhead_205 ks_247 ?_
  refine q_sipush d_Mo_workAhead_208 ks_244 ?_
  refine p_callV (as := [vI 244, vI 247, vI 244]) (st := []) (a := 708) mc_Mo_add mv_Mo_add l_Mo_143 zc_Mo rfl d_Mo_workAhead_211 rfl rfl rfl zk_708 (CV.to ?_)
  exact h
theorem s_Mo_workAhead_214 {x1 : Int} {z2 : VV} {z3 : VV} {x4 : Int}  (h : (R32 (60 + x4) ∧ R32 (2 * (60 + x4))) ∧ CV g M_Mo_copy [vR 708, vI 244, vI (2 * (60 + x4))] D (fun D' => Sg g M_Mo_workAhead Q 228 [vR 708, vI x1, vU, vU, vI x4] [] D')) : Sg g M_Mo_workAhead Q 214 [vR 708, vI x1, z2, z3, vI x4] [] D := by
  unfold Sg
  refine q_mask [false, false, true, true, false] (L' := [vR 708, vI x1, vU, vU, vI x4]) rfl ?_
  obtain ⟨⟨o1, o2⟩, h⟩ := h
  refine q_aload_n d_Mo_workAhead_214 rfl ?_
  refine q_sipush d_Mo_workAhead_215 ks_244 ?_
  refine q_iconst d_Mo_workAhead_218 (by decide) ?_
  refine q_bipush d_Mo_workAhead_219 kb_60 ?_
  refine q_iload d_Mo_workAhead_221 rfl ?_
  refine q_iadd d_Mo_workAhead_223 o1 ?_
  refine q_imul d_Mo_workAhead_224 o2 ?_
  refine p_callV (as := [vI 244, vI (2 * (60 + x4))]) (st := []) (a := 708) mc_Mo_copy mv_Mo_copy l_Mo_106 zc_Mo rfl d_Mo_workAhead_225 rfl rfl rfl zk_708 (CV.to ?_)
  exact h
theorem s_Mo_workAhead_228 {x1 : Int} {z2 : VV} {z3 : VV} {x4 : Int}  (h : (R32 (60 + x4) ∧ R32 (2 * (60 + x4)) ∧ R32 ((2 * (60 + x4)) + 1)) ∧ CV g M_Mo_copy [vR 708, vI 243, vI ((2 * (60 + x4)) + 1)] D (fun D' => Sg g M_Mo_workAhead Q 244 [vR 708, vI x1, vU, vU, vI x4] [] D')) : Sg g M_Mo_workAhead Q 228 [vR 708, vI x1, z2, z3, vI x4] [] D := by
  unfold Sg
  refine q_mask [false, false, true, true, false] (L' := [vR 708, vI x1, vU, vU, vI x4]) rfl ?_
  obtain ⟨⟨o1, o2, o3⟩, h⟩ := h
  refine q_aload_n d_Mo_workAhead_228 rfl ?_
  refine q_sipush d_Mo_workAhead_229 ks_243 ?_
  refine q_iconst d_Mo_workAhead_232 (by decide) ?_
  refine q_bipush d_Mo_workAhead_233 kb_60 ?_
  refine q_iload d_Mo_workAhead_235 rfl ?_
  refine q_iadd d_Mo_workAhead_237 o1 ?_
  refine q_imul d_Mo_workAhead_238 o2 ?_
  refine q_iconst d_Mo_workAhead_239 (by decide) ?_
  refine q_iadd d_Mo_workAhead_240 o3 ?_
  refine p_callV (as := [vI 243, vI ((2 * (60 + x4)) + 1)]) (st := []) (a := 708) mc_Mo_copy mv_Mo_copy l_Mo_106 zc_Mo rfl d_Mo_workAhead_241 rfl rfl rfl zk_708 (CV.to ?_)
  exact h
theorem s_Mo_workAhead_244 {x1 : Int} {z2 : VV} {z3 : VV} {x4 : Int}  (h : (R32 (60 + x4)) ∧ CV g M_Mo_reduce [vR 708, vI (60 + x4)] D (fun D' => Sg g M_Mo_workAhead Q 253 [vR 708, vI x1, vU, vU, vI x4] [] D')) : Sg g M_Mo_workAhead Q 244 [vR 708, vI x1, z2, z3, vI x4] [] D := by
  unfold Sg
  refine q_mask [false, false, true, true, false] (L' := [vR 708, vI x1, vU, vU, vI x4]) rfl ?_
  obtain ⟨o1, h⟩ := h
  refine q_aload_n d_Mo_workAhead_244 rfl ?_
  refine q_bipush d_Mo_workAhead_245 kb_60 ?_
  refine q_iload d_Mo_workAhead_247 rfl ?_
  refine q_iadd d_Mo_workAhead_249 o1 ?_
  refine p_callV (as := [vI (60 + x4)]) (st := []) (a := 708) mc_Mo_reduce mv_Mo_reduce l_Mo_137 zc_Mo rfl d_Mo_workAhead_250 rfl rfl rfl zk_708 (CV.to ?_)
  exact h
theorem s_Mo_workAhead_253 {x1 : Int} {z2 : VV} {z3 : VV} {z4 : VV}  (h : Sg g M_Mo_workAhead Q 284 [vR 708, vI x1, vU, vU, vU] [] D) : Sg g M_Mo_workAhead Q 253 [vR 708, vI x1, z2, z3, z4] [] D := by
  unfold Sg
  refine q_mask [false, false, true, true, true] (L' := [vR 708, vI x1, vU, vU, vU]) rfl ?_
  refine q_goto (tgt := 284) d_Mo_workAhead_253 (by decide) ?_
  exact h
theorem s_Mo_whoAt_0 {x1 : Int} {x2 : Int}  (h : CV g M_Mo_copy [vR 708, vI 243, vI 244] D (fun D' => Sg g M_Mo_whoAt Q 10 [vR 708, vI x1, vI x2, vU, vU] [] D')) : Sg g M_Mo_whoAt Q 0 [vR 708, vI x1, vI x2, vU, vU] [] D := by
  unfold Sg
  refine q_aload_n d_Mo_whoAt_0 rfl ?_
  refine q_sipush d_Mo_whoAt_1 ks_243 ?_
  refine q_sipush d_Mo_whoAt_4 ks_244 ?_
  refine p_callV (as := [vI 243, vI 244]) (st := []) (a := 708) mc_Mo_copy mv_Mo_copy l_Mo_106 zc_Mo rfl d_Mo_whoAt_7 rfl rfl rfl zk_708 (CV.to ?_)
  exact h
theorem s_Mo_whoAt_10 {x1 : Int} {x2 : Int} {z3 : VV} {z4 : VV}  (h : CV g M_Mo_multiplyBy [vR 708, vI 244, vI x2] D (fun D' => Sg g M_Mo_whoAt Q 18 [vR 708, vI x1, vI x2, vU, vU] [] D')) : Sg g M_Mo_whoAt Q 10 [vR 708, vI x1, vI x2, z3, z4] [] D := by
  unfold Sg
  refine q_mask [false, false, false, true, true] (L' := [vR 708, vI x1, vI x2, vU, vU]) rfl ?_
  refine q_aload_n d_Mo_whoAt_10 rfl ?_
  refine q_sipush d_Mo_whoAt_11 ks_244 ?_
  refine q_iload_n d_Mo_whoAt_14 rfl ?_
  refine p_callV (as := [vI 244, vI x2]) (st := []) (a := 708) mc_Mo_multiplyBy mv_Mo_multiplyBy l_Mo_124 zc_Mo rfl d_Mo_whoAt_15 rfl rfl rfl zk_708 (CV.to ?_)
  exact h
theorem s_Mo_whoAt_18 {x1 : Int} {z2 : VV} {z3 : VV} {z4 : VV}  (h : (∀ D1, D1 = zw D 710 245 0 → CI g M_Mo_inOrder [vR 708, vI x1, vI 0] D1 (fun v3 D' => Sg g M_Mo_whoAt Q 35 [vR 708, vI x1, vU, vI 0, vU] [vI v3] D'))) : Sg g M_Mo_whoAt Q 18 [vR 708, vI x1, z2, z3, z4] [] D := by
  unfold Sg
  refine q_mask [false, false, true, true, true] (L' := [vR 708, vI x1, vU, vU, vU]) rfl ?_
  refine q_aload_n d_Mo_whoAt_18 rfl ?_
  refine p_getR (k := 2) (b := 710) zc_Mo l_Mo_13 fr_Mo_sizes d_Mo_whoAt_19 zk_708 rfl ?_
  refine q_sipush d_Mo_whoAt_22 ks_245 ?_
  refine q_iconst d_Mo_whoAt_25 (by decide) ?_
  refine p_iast d_Mo_whoAt_26 zk_710 (by decide) (fun D1 e2 => ?_)
  have h := h D1 e2
  refine q_iconst d_Mo_whoAt_27 (by decide) ?_
  refine q_istore_n d_Mo_whoAt_28 (by decide) (L' := [vR 708, vI x1, vU, vI 0, vU]) rfl ?_
  refine q_aload_n d_Mo_whoAt_29 rfl ?_
  refine q_iload_n d_Mo_whoAt_30 rfl ?_
  refine q_iconst d_Mo_whoAt_31 (by decide) ?_
  refine p_callV (as := [vI x1, vI 0]) (st := []) (a := 708) mc_Mo_inOrder mv_Mo_inOrder l_Mo_210 zc_Mo rfl d_Mo_whoAt_32 rfl rfl rfl zk_708 (CI.to ?_)
  exact h
theorem s_Mo_whoAt_35 {x1 : Int} {z2 : VV} {x3 : Int} {z4 : VV} {y0 : Int}  (h : Sg g M_Mo_whoAt Q 37 [vR 708, vI x1, vU, vI x3, vI y0] [] D) : Sg g M_Mo_whoAt Q 35 [vR 708, vI x1, z2, vI x3, z4] [vI y0] D := by
  unfold Sg
  refine q_mask [false, false, true, false, true] (L' := [vR 708, vI x1, vU, vI x3, vU]) rfl ?_
  refine q_istore d_Mo_whoAt_35 (by decide) (L' := [vR 708, vI x1, vU, vI x3, vI y0]) rfl ?_
  exact h
theorem s_Mo_whoAt_37 {x1 : Int} {z2 : VV} {x3 : Int} {x4 : Int}  (h : ((x4 < 0 → Q (some (vI (-1))) zE D) ∧ (¬ x4 < 0 → (R32 (230 + x4)) ∧ CV g M_Mo_add [vR 708, vI 245, vI (230 + x4), vI 245] D (fun D' => Sg g M_Mo_whoAt Q 58 [vR 708, vI x1, vU, vI x3, vI x4] [] D')))) : Sg g M_Mo_whoAt Q 37 [vR 708, vI x1, z2, vI x3, vI x4] [] D := by
  unfold Sg
  refine q_mask [false, false, true, false, false] (L' := [vR 708, vI x1, vU, vI x3, vI x4]) rfl ?_
  refine q_iload d_Mo_whoAt_37 rfl ?_
  refine q_if_lt (tgt := 88) d_Mo_whoAt_39 (by decide) (fun c1 => ?_) (fun c1 => ?_)
  · have h := h.1 (c1)
    refine q_iconst d_Mo_whoAt_88 (by decide) ?_
    exact q_iret d_Mo_whoAt_89 (Or.inl rfl) ⟨Nat.le_refl _, Nat.le_refl _⟩ h
  · have h := h.2 (c1)
    obtain ⟨o2, h⟩ := h
    refine q_aload_n d_Mo_whoAt_42 rfl ?_
    refine q_sipush d_Mo_whoAt_43 ks_245 ?_
    refine q_sipush d_Mo_whoAt_46 ks_230 ?_
    refine q_iload d_Mo_whoAt_49 rfl ?_
    refine q_iadd d_Mo_whoAt_51 o2 ?_
    refine q_sipush d_Mo_whoAt_52 ks_245 ?_
    refine p_callV (as := [vI 245, vI (230 + x4), vI 245]) (st := []) (a := 708) mc_Mo_add mv_Mo_add l_Mo_143 zc_Mo rfl d_Mo_whoAt_55 rfl rfl rfl zk_708 (CV.to ?_)
    exact h
theorem s_Mo_whoAt_58 {x1 : Int} {z2 : VV} {x3 : Int} {x4 : Int}  (h : CI g M_Mo_order [vR 708, vI 245, vI 244] D (fun v1 D' => Sg g M_Mo_whoAt Q 68 [vR 708, vI x1, vU, vI x3, vI x4] [vI v1] D')) : Sg g M_Mo_whoAt Q 58 [vR 708, vI x1, z2, vI x3, vI x4] [] D := by
  unfold Sg
  refine q_mask [false, false, true, false, false] (L' := [vR 708, vI x1, vU, vI x3, vI x4]) rfl ?_
  refine q_aload_n d_Mo_whoAt_58 rfl ?_
  refine q_sipush d_Mo_whoAt_59 ks_245 ?_
  refine q_sipush d_Mo_whoAt_62 ks_244 ?_
  refine p_callV (as := [vI 245, vI 244]) (st := []) (a := 708) mc_Mo_order mv_Mo_order l_Mo_117 zc_Mo rfl d_Mo_whoAt_65 rfl rfl rfl zk_708 (CI.to ?_)
  exact h
theorem s_Mo_whoAt_68 {x1 : Int} {z2 : VV} {x3 : Int} {x4 : Int} {y0 : Int}  (h : ((y0 ≤ 0 → (R32 (x3 + 1)) ∧ CI g M_Mo_inOrder [vR 708, vI x1, vI (x3 + 1)] D (fun v3 D' => Sg g M_Mo_whoAt Q 83 [vR 708, vI x1, vU, vI (x3 + 1), vI x4] [vI v3] D')) ∧ (¬ y0 ≤ 0 → Q (some (vI x4)) zE D))) : Sg g M_Mo_whoAt Q 68 [vR 708, vI x1, z2, vI x3, vI x4] [vI y0] D := by
  unfold Sg
  refine q_mask [false, false, true, false, false] (L' := [vR 708, vI x1, vU, vI x3, vI x4]) rfl ?_
  refine q_if_le (tgt := 74) d_Mo_whoAt_68 (by decide) (fun c1 => ?_) (fun c1 => ?_)
  · have h := h.1 (c1)
    obtain ⟨o2, h⟩ := h
    refine q_iinc d_Mo_whoAt_74 rfl (by decide) o2 (L' := [vR 708, vI x1, vU, vI (x3 + 1), vI x4]) rfl ?_
    refine q_aload_n d_Mo_whoAt_77 rfl ?_
    refine q_iload_n d_Mo_whoAt_78 rfl ?_
    refine q_iload_n d_Mo_whoAt_79 rfl ?_
    refine p_callV (as := [vI x1, vI (x3 + 1)]) (st := []) (a := 708) mc_Mo_inOrder mv_Mo_inOrder l_Mo_210 zc_Mo rfl d_Mo_whoAt_80 rfl rfl rfl zk_708 (CI.to ?_)
    exact h
  · have h := h.2 (c1)
    refine q_iload d_Mo_whoAt_71 rfl ?_
    exact q_iret d_Mo_whoAt_73 (Or.inl rfl) ⟨Nat.le_refl _, Nat.le_refl _⟩ h
theorem s_Mo_whoAt_83 {x1 : Int} {z2 : VV} {x3 : Int} {z4 : VV} {y0 : Int}  (h : Sg g M_Mo_whoAt Q 37 [vR 708, vI x1, vU, vI x3, vI y0] [] D) : Sg g M_Mo_whoAt Q 83 [vR 708, vI x1, z2, vI x3, z4] [vI y0] D := by
  unfold Sg
  refine q_mask [false, false, true, false, true] (L' := [vR 708, vI x1, vU, vI x3, vU]) rfl ?_
  refine q_istore d_Mo_whoAt_83 (by decide) (L' := [vR 708, vI x1, vU, vI x3, vI y0]) rfl ?_
  refine q_goto (tgt := 37) d_Mo_whoAt_85 (by decide) ?_
  exact h
theorem s_Mo_ahead_0   (h : (∀ D1, D1 = zw D 708 0 0 → (∀ D3, D3 = zw D1 708 11 1 → (∀ D5, D5 = zw D3 708 26 0 → Sg g M_Mo_ahead Q 17 [vR 708, vI 0, vU, vU, vU] [] D5)))) : Sg g M_Mo_ahead Q 0 [vR 708, vU, vU, vU, vU] [] D := by
  unfold Sg
  refine q_aload_n d_Mo_ahead_0 rfl ?_
  refine q_iconst d_Mo_ahead_1 (by decide) ?_
  refine p_putI (k := 0) zc_Mo l_Mo_91 fp_Mo_thrown (Or.inl rfl) d_Mo_ahead_2 zk_708 (fun D1 e2 => ?_)
  have h := h D1 e2
  refine q_aload_n d_Mo_ahead_5 rfl ?_
  refine q_iconst d_Mo_ahead_6 (by decide) ?_
  refine p_putI (k := 11) zc_Mo l_Mo_156 fp_Mo_gone (Or.inr ⟨rfl, by decide⟩) d_Mo_ahead_7 zk_708 (fun D3 e4 => ?_)
  have h := h D3 e4
  refine q_aload_n d_Mo_ahead_10 rfl ?_
  refine q_iconst d_Mo_ahead_11 (by decide) ?_
  refine p_putI (k := 26) zc_Mo l_Mo_213 fp_Mo_aheadSteps (Or.inl rfl) d_Mo_ahead_12 zk_708 (fun D5 e6 => ?_)
  have h := h D5 e6
  refine q_iconst d_Mo_ahead_15 (by decide) ?_
  refine q_istore_n d_Mo_ahead_16 (by decide) (L' := [vR 708, vI 0, vU, vU, vU]) rfl ?_
  exact h
theorem s_Mo_ahead_17 {x1 : Int} {z2 : VV} {z3 : VV} {z4 : VV}  (h : ((200 ≤ x1 → CV g M_Mo_set [vR 708, vI 242, vL 1] D (fun D' => Sg g M_Mo_ahead Q 45 [vR 708, vI x1, vU, vU, vU] [] D')) ∧ (¬ 200 ≤ x1 → ((0 ≤ x1 ∧ x1 < 200)) ∧ (∀ D4, D4 = zw D 730 x1 (-1) → (R32 (x1 + 1)) ∧ Sg g M_Mo_ahead Q 17 [vR 708, vI (x1 + 1), vU, vU, vU] [] D4)))) : Sg g M_Mo_ahead Q 17 [vR 708, vI x1, z2, z3, z4] [] D := by
  unfold Sg
  refine q_mask [false, false, true, true, true] (L' := [vR 708, vI x1, vU, vU, vU]) rfl ?_
  refine q_iload_n d_Mo_ahead_17 rfl ?_
  refine q_sipush d_Mo_ahead_18 ks_200 ?_
  refine q_icmp_ge (tgt := 37) d_Mo_ahead_21 (by decide) (fun c1 => ?_) (fun c1 => ?_)
  · have h := h.1 (c1)
    refine q_aload_n d_Mo_ahead_37 rfl ?_
    refine q_sipush d_Mo_ahead_38 ks_242 ?_
    refine q_lconst (x := 1) d_Mo_ahead_41 ⟨rfl, by decide⟩ ?_
    refine p_callV (as := [vI 242, vL 1]) (st := []) (a := 708) mc_Mo_set mv_Mo_set l_Mo_127 zc_Mo rfl d_Mo_ahead_42 rfl rfl rfl zk_708 (CV.to ?_)
    exact h
  · have h := h.2 (c1)
    obtain ⟨o3, h⟩ := h
    refine q_aload_n d_Mo_ahead_24 rfl ?_
    refine p_getR (k := 29) (b := 730) zc_Mo l_Mo_75 fr_Mo_aheadWorks d_Mo_ahead_25 zk_708 rfl ?_
    refine q_iload_n d_Mo_ahead_28 rfl ?_
    refine q_iconst d_Mo_ahead_29 (by decide) ?_
    refine p_iast d_Mo_ahead_30 zk_730 o3 (fun D4 e5 => ?_)
    have h := h D4 e5
    obtain ⟨o6, h⟩ := h
    refine q_iinc d_Mo_ahead_31 rfl (by decide) o6 (L' := [vR 708, vI (x1 + 1), vU, vU, vU]) rfl ?_
    refine q_goto (tgt := 17) d_Mo_ahead_34 (by decide) ?_
    exact h
theorem s_Mo_ahead_45 {z1 : VV} {z2 : VV} {z3 : VV} {z4 : VV}  (h : Sg g M_Mo_ahead Q 47 [vR 708, vI 0, vU, vU, vU] [] D) : Sg g M_Mo_ahead Q 45 [vR 708, z1, z2, z3, z4] [] D := by
  unfold Sg
  refine q_mask [false, true, true, true, true] (L' := [vR 708, vU, vU, vU, vU]) rfl ?_
  refine q_iconst d_Mo_ahead_45 (by decide) ?_
  refine q_istore_n d_Mo_ahead_46 (by decide) (L' := [vR 708, vI 0, vU, vU, vU]) rfl ?_
  exact h
theorem s_Mo_ahead_47 {x1 : Int} {z2 : VV} {z3 : VV} {z4 : VV}  (h : (((D 708 3) ≤ x1 → CI g M_Mo_lastDeadline [vR 708] D (fun v2 D' => Sg g M_Mo_ahead Q 81 [vR 708, vI x1, vU, vU, vU] [vI v2] D')) ∧ (¬ (D 708 3) ≤ x1 → (R32 (230 + x1) ∧ (0 ≤ x1 ∧ x1 < 12)) ∧ CV g M_Mo_set [vR 708, vI (230 + x1), vL (D 713 x1)] D (fun D' => Sg g M_Mo_ahead Q 71 [vR 708, vI x1, vU, vU, vU] [] D')))) : Sg g M_Mo_ahead Q 47 [vR 708, vI x1, z2, z3, z4] [] D := by
  unfold Sg
  refine q_mask [false, false, true, true, true] (L' := [vR 708, vI x1, vU, vU, vU]) rfl ?_
  refine q_iload_n d_Mo_ahead_47 rfl ?_
  refine q_aload_n d_Mo_ahead_48 rfl ?_
  refine p_getI (k := 3) zc_Mo l_Mo_153 fi_Mo_jobs d_Mo_ahead_49 zk_708 ?_
  refine q_icmp_ge (tgt := 77) d_Mo_ahead_52 (by decide) (fun c1 => ?_) (fun c1 => ?_)
  · have h := h.1 (c1)
    refine q_aload_n d_Mo_ahead_77 rfl ?_
    refine p_callV (as := []) (st := []) (a := 708) mc_Mo_lastDeadline mv_Mo_lastDeadline l_Mo_195 zc_Mo rfl d_Mo_ahead_78 rfl rfl rfl zk_708 (CI.to ?_)
    exact h
  · have h := h.2 (c1)
    obtain ⟨⟨o3, o4⟩, h⟩ := h
    refine q_aload_n d_Mo_ahead_55 rfl ?_
    refine q_sipush d_Mo_ahead_56 ks_230 ?_
    refine q_iload_n d_Mo_ahead_59 rfl ?_
    refine q_iadd d_Mo_ahead_60 o3 ?_
    refine q_aload_n d_Mo_ahead_61 rfl ?_
    refine p_getR (k := 6) (b := 713) zc_Mo l_Mo_22 fr_Mo_works d_Mo_ahead_62 zk_708 rfl ?_
    refine q_iload_n d_Mo_ahead_65 rfl ?_
    refine p_iald d_Mo_ahead_66 zk_713 o4 ?_
    refine q_i2l d_Mo_ahead_67 ?_
    refine p_callV (as := [vI (230 + x1), vL (D 713 x1)]) (st := []) (a := 708) mc_Mo_set mv_Mo_set l_Mo_127 zc_Mo rfl d_Mo_ahead_68 rfl rfl rfl zk_708 (CV.to ?_)
    exact h
theorem s_Mo_ahead_81 {z1 : VV} {z2 : VV} {z3 : VV} {z4 : VV} {y0 : Int}  (h : CI g M_Mo_firstRelease [vR 708] D (fun v1 D' => Sg g M_Mo_ahead Q 86 [vR 708, vI y0, vU, vU, vU] [vI v1] D')) : Sg g M_Mo_ahead Q 81 [vR 708, z1, z2, z3, z4] [vI y0] D := by
  unfold Sg
  refine q_mask [false, true, true, true, true] (L' := [vR 708, vU, vU, vU, vU]) rfl ?_
  refine q_istore_n d_Mo_ahead_81 (by decide) (L' := [vR 708, vI y0, vU, vU, vU]) rfl ?_
  refine q_aload_n d_Mo_ahead_82 rfl ?_
  refine p_callV (as := []) (st := []) (a := 708) mc_Mo_firstRelease mv_Mo_firstRelease l_Mo_191 zc_Mo rfl d_Mo_ahead_83 rfl rfl rfl zk_708 (CI.to ?_)
  exact h
theorem s_Mo_ahead_71 {x1 : Int} {z2 : VV} {z3 : VV} {z4 : VV}  (h : (R32 (x1 + 1)) ∧ Sg g M_Mo_ahead Q 47 [vR 708, vI (x1 + 1), vU, vU, vU] [] D) : Sg g M_Mo_ahead Q 71 [vR 708, vI x1, z2, z3, z4] [] D := by
  unfold Sg
  refine q_mask [false, false, true, true, true] (L' := [vR 708, vI x1, vU, vU, vU]) rfl ?_
  obtain ⟨o1, h⟩ := h
  refine q_iinc d_Mo_ahead_71 rfl (by decide) o1 (L' := [vR 708, vI (x1 + 1), vU, vU, vU]) rfl ?_
  refine q_goto (tgt := 47) d_Mo_ahead_74 (by decide) ?_
  exact h
theorem s_Mo_ahead_86 {x1 : Int} {z2 : VV} {z3 : VV} {z4 : VV} {y0 : Int}  (h : Sg g M_Mo_ahead Q 87 [vR 708, vI x1, vI y0, vU, vU] [] D) : Sg g M_Mo_ahead Q 86 [vR 708, vI x1, z2, z3, z4] [vI y0] D := by
  unfold Sg
  refine q_mask [false, false, true, true, true] (L' := [vR 708, vI x1, vU, vU, vU]) rfl ?_
  refine q_istore_n d_Mo_ahead_86 (by decide) (L' := [vR 708, vI x1, vI y0, vU, vU]) rfl ?_
  exact h
theorem s_Mo_ahead_87 {x1 : Int} {x2 : Int} {z3 : VV} {z4 : VV}  (h : ((x1 ≤ x2 → CV g M_Mo_set [vR 708, vI 224, vL 0] D (fun D' => Sg g M_Mo_ahead Q 255 [vR 708, vI x1, vI x2, vU, vU] [] D')) ∧ (¬ x1 ≤ x2 → CI g M_Mo_nextEvent [vR 708, vI x2] D (fun v3 D' => Sg g M_Mo_ahead Q 97 [vR 708, vI x1, vI x2, vU, vU] [vI v3] D')))) : Sg g M_Mo_ahead Q 87 [vR 708, vI x1, vI x2, z3, z4] [] D := by
  unfold Sg
  refine q_mask [false, false, false, true, true] (L' := [vR 708, vI x1, vI x2, vU, vU]) rfl ?_
  refine q_iload_n d_Mo_ahead_87 rfl ?_
  refine q_iload_n d_Mo_ahead_88 rfl ?_
  refine q_icmp_ge (tgt := 247) d_Mo_ahead_89 (by decide) (fun c1 => ?_) (fun c1 => ?_)
  · have h := h.1 (c1)
    refine q_aload_n d_Mo_ahead_247 rfl ?_
    refine q_sipush d_Mo_ahead_248 ks_224 ?_
    refine q_lconst (x := 0) d_Mo_ahead_251 ⟨rfl, by decide⟩ ?_
    refine p_callV (as := [vI 224, vL 0]) (st := []) (a := 708) mc_Mo_set mv_Mo_set l_Mo_127 zc_Mo rfl d_Mo_ahead_252 rfl rfl rfl zk_708 (CV.to ?_)
    exact h
  · have h := h.2 (c1)
    refine q_aload_n d_Mo_ahead_92 rfl ?_
    refine q_iload_n d_Mo_ahead_93 rfl ?_
    refine p_callV (as := [vI x2]) (st := []) (a := 708) mc_Mo_nextEvent mv_Mo_nextEvent l_Mo_216 zc_Mo rfl d_Mo_ahead_94 rfl rfl rfl zk_708 (CI.to ?_)
    exact h
theorem s_Mo_ahead_255 {z1 : VV} {z2 : VV} {z3 : VV} {z4 : VV}  (h : CV g M_Mo_set [vR 708, vI 225, vL 1] D (fun D' => Sg g M_Mo_ahead Q 263 [vR 708, vU, vU, vU, vU] [] D')) : Sg g M_Mo_ahead Q 255 [vR 708, z1, z2, z3, z4] [] D := by
  unfold Sg
  refine q_mask [false, true, true, true, true] (L' := [vR 708, vU, vU, vU, vU]) rfl ?_
  refine q_aload_n d_Mo_ahead_255 rfl ?_
  refine q_sipush d_Mo_ahead_256 ks_225 ?_
  refine q_lconst (x := 1) d_Mo_ahead_259 ⟨rfl, by decide⟩ ?_
  refine p_callV (as := [vI 225, vL 1]) (st := []) (a := 708) mc_Mo_set mv_Mo_set l_Mo_127 zc_Mo rfl d_Mo_ahead_260 rfl rfl rfl zk_708 (CV.to ?_)
  exact h
theorem s_Mo_ahead_97 {x1 : Int} {x2 : Int} {z3 : VV} {z4 : VV} {y0 : Int}  (h : CI g M_Mo_findBest [vR 708, vI x2] D (fun v1 D' => Sg g M_Mo_ahead Q 103 [vR 708, vI x1, vI x2, vI y0, vU] [vI v1] D')) : Sg g M_Mo_ahead Q 97 [vR 708, vI x1, vI x2, z3, z4] [vI y0] D := by
  unfold Sg
  refine q_mask [false, false, false, true, true] (L' := [vR 708, vI x1, vI x2, vU, vU]) rfl ?_
  refine q_istore_n d_Mo_ahead_97 (by decide) (L' := [vR 708, vI x1, vI x2, vI y0, vU]) rfl ?_
  refine q_aload_n d_Mo_ahead_98 rfl ?_
  refine q_iload_n d_Mo_ahead_99 rfl ?_
  refine p_callV (as := [vI x2]) (st := []) (a := 708) mc_Mo_findBest mv_Mo_findBest l_Mo_219 zc_Mo rfl d_Mo_ahead_100 rfl rfl rfl zk_708 (CI.to ?_)
  exact h
theorem s_Mo_ahead_263 {z1 : VV} {z2 : VV} {z3 : VV} {z4 : VV}  (h : Sg g M_Mo_ahead Q 265 [vR 708, vU, vU, vI 0, vU] [] D) : Sg g M_Mo_ahead Q 263 [vR 708, z1, z2, z3, z4] [] D := by
  unfold Sg
  refine q_mask [false, true, true, true, true] (L' := [vR 708, vU, vU, vU, vU]) rfl ?_
  refine q_iconst d_Mo_ahead_263 (by decide) ?_
  refine q_istore_n d_Mo_ahead_264 (by decide) (L' := [vR 708, vU, vU, vI 0, vU]) rfl ?_
  exact h
theorem s_Mo_ahead_103 {x1 : Int} {x2 : Int} {x3 : Int} {z4 : VV} {y0 : Int}  (h : ((y0 ≤ 0 → CV g M_Mo_set [vR 708, vI 222, vL 0] D (fun D' => Sg g M_Mo_ahead Q 158 [vR 708, vI x1, vI x2, vI x3, vI y0] [] D')) ∧ (¬ y0 ≤ 0 → CV g M_Mo_copy [vR 708, vI 243, vI 222] D (fun D' => Sg g M_Mo_ahead Q 120 [vR 708, vI x1, vI x2, vI x3, vI y0] [] D')))) : Sg g M_Mo_ahead Q 103 [vR 708, vI x1, vI x2, vI x3, z4] [vI y0] D := by
  unfold Sg
  refine q_mask [false, false, false, false, true] (L' := [vR 708, vI x1, vI x2, vI x3, vU]) rfl ?_
  refine q_istore d_Mo_ahead_103 (by decide) (L' := [vR 708, vI x1, vI x2, vI x3, vI y0]) rfl ?_
  refine q_iload d_Mo_ahead_105 rfl ?_
  refine q_if_le (tgt := 150) d_Mo_ahead_107 (by decide) (fun c1 => ?_) (fun c1 => ?_)
  · have h := h.1 (c1)
    refine q_aload_n d_Mo_ahead_150 rfl ?_
    refine q_sipush d_Mo_ahead_151 ks_222 ?_
    refine q_lconst (x := 0) d_Mo_ahead_154 ⟨rfl, by decide⟩ ?_
    refine p_callV (as := [vI 222, vL 0]) (st := []) (a := 708) mc_Mo_set mv_Mo_set l_Mo_127 zc_Mo rfl d_Mo_ahead_155 rfl rfl rfl zk_708 (CV.to ?_)
    exact h
  · have h := h.2 (c1)
    refine q_aload_n d_Mo_ahead_110 rfl ?_
    refine q_sipush d_Mo_ahead_111 ks_243 ?_
    refine q_sipush d_Mo_ahead_114 ks_222 ?_
    refine p_callV (as := [vI 243, vI 222]) (st := []) (a := 708) mc_Mo_copy mv_Mo_copy l_Mo_106 zc_Mo rfl d_Mo_ahead_117 rfl rfl rfl zk_708 (CV.to ?_)
    exact h
theorem s_Mo_ahead_265 {z1 : VV} {z2 : VV} {x3 : Int} {z4 : VV}  (h : (((D 708 26) ≤ x3 → CV g M_Mo_keep [vR 708, vI 112, vI 109] D (fun D' => Sg g M_Mo_ahead Q 308 [vR 708, vU, vU, vI x3, vU] [] D')) ∧ (¬ (D 708 26) ≤ x3 → (R32 (24 + x3) ∧ (0 ≤ x3 ∧ x3 < 24) ∧ (0 ≤ x3 ∧ x3 < 24) ∧ R32 ((D 729 x3) - (D 728 x3))) ∧ CV g M_Mo_sumCube [vR 708, vI (24 + x3), vI ((D 729 x3) - (D 728 x3))] D (fun D' => Sg g M_Mo_ahead Q 294 [vR 708, vU, vU, vI x3, vU] [] D')))) : Sg g M_Mo_ahead Q 265 [vR 708, z1, z2, vI x3, z4] [] D := by
  unfold Sg
  refine q_mask [false, true, true, false, true] (L' := [vR 708, vU, vU, vI x3, vU]) rfl ?_
  refine q_iload_n d_Mo_ahead_265 rfl ?_
  refine q_aload_n d_Mo_ahead_266 rfl ?_
  refine p_getI (k := 26) zc_Mo l_Mo_213 fi_Mo_aheadSteps d_Mo_ahead_267 zk_708 ?_
  refine q_icmp_ge (tgt := 300) d_Mo_ahead_270 (by decide) (fun c1 => ?_) (fun c1 => ?_)
  · have h := h.1 (c1)
    refine q_aload_n d_Mo_ahead_300 rfl ?_
    refine q_bipush d_Mo_ahead_301 kb_112 ?_
    refine q_bipush d_Mo_ahead_303 kb_109 ?_
    refine p_callV (as := [vI 112, vI 109]) (st := []) (a := 708) mc_Mo_keep mv_Mo_keep l_Mo_204 zc_Mo rfl d_Mo_ahead_305 rfl rfl rfl zk_708 (CV.to ?_)
    exact h
  · have h := h.2 (c1)
    obtain ⟨⟨o3, o4, o5, o6⟩, h⟩ := h
    refine q_aload_n d_Mo_ahead_273 rfl ?_
    refine q_bipush d_Mo_ahead_274 kb_24 ?_
    refine q_iload_n d_Mo_ahead_276 rfl ?_
    refine q_iadd d_Mo_ahead_277 o3 ?_
    refine q_aload_n d_Mo_ahead_278 rfl ?_
    refine p_getR (k := 28) (b := 729) zc_Mo l_Mo_72 fr_Mo_aheadEnds d_Mo_ahead_279 zk_708 rfl ?_
    refine q_iload_n d_Mo_ahead_282 rfl ?_
    refine p_iald d_Mo_ahead_283 zk_729 o4 ?_
    refine q_aload_n d_Mo_ahead_284 rfl ?_
    refine p_getR (k := 27) (b := 728) zc_Mo l_Mo_69 fr_Mo_aheadBegins d_Mo_ahead_285 zk_708 rfl ?_
    refine q_iload_n d_Mo_ahead_288 rfl ?_
    refine p_iald d_Mo_ahead_289 zk_728 o5 ?_
    refine q_isub d_Mo_ahead_290 o6 ?_
    refine p_callV (as := [vI (24 + x3), vI ((D 729 x3) - (D 728 x3))]) (st := []) (a := 708) mc_Mo_sumCube mv_Mo_sumCube l_Mo_201 zc_Mo rfl d_Mo_ahead_291 rfl rfl rfl zk_708 (CV.to ?_)
    exact h
theorem s_Mo_ahead_158 {x1 : Int} {x2 : Int} {x3 : Int} {z4 : VV}  (h : CV g M_Mo_set [vR 708, vI 223, vL 1] D (fun D' => Sg g M_Mo_ahead Q 166 [vR 708, vI x1, vI x2, vI x3, vU] [] D')) : Sg g M_Mo_ahead Q 158 [vR 708, vI x1, vI x2, vI x3, z4] [] D := by
  unfold Sg
  refine q_mask [false, false, false, false, true] (L' := [vR 708, vI x1, vI x2, vI x3, vU]) rfl ?_
  refine q_aload_n d_Mo_ahead_158 rfl ?_
  refine q_sipush d_Mo_ahead_159 ks_223 ?_
  refine q_lconst (x := 1) d_Mo_ahead_162 ⟨rfl, by decide⟩ ?_
  refine p_callV (as := [vI 223, vL 1]) (st := []) (a := 708) mc_Mo_set mv_Mo_set l_Mo_127 zc_Mo rfl d_Mo_ahead_163 rfl rfl rfl zk_708 (CV.to ?_)
  exact h
theorem s_Mo_ahead_120 {x1 : Int} {x2 : Int} {x3 : Int} {x4 : Int}  (h : CV g M_Mo_copy [vR 708, vI 242, vI 223] D (fun D' => Sg g M_Mo_ahead Q 130 [vR 708, vI x1, vI x2, vI x3, vI x4] [] D')) : Sg g M_Mo_ahead Q 120 [vR 708, vI x1, vI x2, vI x3, vI x4] [] D := by
  unfold Sg
  refine q_aload_n d_Mo_ahead_120 rfl ?_
  refine q_sipush d_Mo_ahead_121 ks_242 ?_
  refine q_sipush d_Mo_ahead_124 ks_223 ?_
  refine p_callV (as := [vI 242, vI 223]) (st := []) (a := 708) mc_Mo_copy mv_Mo_copy l_Mo_106 zc_Mo rfl d_Mo_ahead_127 rfl rfl rfl zk_708 (CV.to ?_)
  exact h
theorem s_Mo_ahead_308 {z1 : VV} {z2 : VV} {z3 : VV} {z4 : VV}  (h : Q (some (vI (D 708 26))) zE D) : Sg g M_Mo_ahead Q 308 [vR 708, z1, z2, z3, z4] [] D := by
  unfold Sg
  refine q_mask [false, true, true, true, true] (L' := [vR 708, vU, vU, vU, vU]) rfl ?_
  refine q_aload_n d_Mo_ahead_308 rfl ?_
  refine p_getI (k := 26) zc_Mo l_Mo_213 fi_Mo_aheadSteps d_Mo_ahead_309 zk_708 ?_
  exact q_iret d_Mo_ahead_312 (Or.inl rfl) ⟨Nat.le_refl _, Nat.le_refl _⟩ h
theorem s_Mo_ahead_294 {z1 : VV} {z2 : VV} {x3 : Int} {z4 : VV}  (h : (R32 (x3 + 1)) ∧ Sg g M_Mo_ahead Q 265 [vR 708, vU, vU, vI (x3 + 1), vU] [] D) : Sg g M_Mo_ahead Q 294 [vR 708, z1, z2, vI x3, z4] [] D := by
  unfold Sg
  refine q_mask [false, true, true, false, true] (L' := [vR 708, vU, vU, vI x3, vU]) rfl ?_
  obtain ⟨o1, h⟩ := h
  refine q_iinc d_Mo_ahead_294 rfl (by decide) o1 (L' := [vR 708, vU, vU, vI (x3 + 1), vU]) rfl ?_
  refine q_goto (tgt := 265) d_Mo_ahead_297 (by decide) ?_
  exact h
theorem s_Mo_ahead_166 {x1 : Int} {x2 : Int} {x3 : Int} {z4 : VV}  (h : CV g M_Mo_reduce [vR 708, vI 111] D (fun D' => Sg g M_Mo_ahead Q 172 [vR 708, vI x1, vI x2, vI x3, vU] [] D')) : Sg g M_Mo_ahead Q 166 [vR 708, vI x1, vI x2, vI x3, z4] [] D := by
  unfold Sg
  refine q_mask [false, false, false, false, true] (L' := [vR 708, vI x1, vI x2, vI x3, vU]) rfl ?_
  refine q_aload_n d_Mo_ahead_166 rfl ?_
  refine q_bipush d_Mo_ahead_167 kb_111 ?_
  refine p_callV (as := [vI 111]) (st := []) (a := 708) mc_Mo_reduce mv_Mo_reduce l_Mo_137 zc_Mo rfl d_Mo_ahead_169 rfl rfl rfl zk_708 (CV.to ?_)
  exact h
theorem s_Mo_ahead_130 {x1 : Int} {x2 : Int} {x3 : Int} {x4 : Int}  (h : CV g M_Mo_multiplyBy [vR 708, vI 223, vI x4] D (fun D' => Sg g M_Mo_ahead Q 139 [vR 708, vI x1, vI x2, vI x3, vI x4] [] D')) : Sg g M_Mo_ahead Q 130 [vR 708, vI x1, vI x2, vI x3, vI x4] [] D := by
  unfold Sg
  refine q_aload_n d_Mo_ahead_130 rfl ?_
  refine q_sipush d_Mo_ahead_131 ks_223 ?_
  refine q_iload d_Mo_ahead_134 rfl ?_
  refine p_callV (as := [vI 223, vI x4]) (st := []) (a := 708) mc_Mo_multiplyBy mv_Mo_multiplyBy l_Mo_124 zc_Mo rfl d_Mo_ahead_136 rfl rfl rfl zk_708 (CV.to ?_)
  exact h
theorem s_Mo_ahead_172 {x1 : Int} {x2 : Int} {x3 : Int} {z4 : VV}  (h : (((D 708 26) = 0 → Sg g M_Mo_ahead Q 197 [vR 708, vI x1, vI x2, vI x3, vU] [] D) ∧ (¬ (D 708 26) = 0 → (R32 (24 + (D 708 26)) ∧ R32 ((24 + (D 708 26)) - 1)) ∧ CI g M_Mo_isSame [vR 708, vI 111, vI ((24 + (D 708 26)) - 1)] D (fun v4 D' => Sg g M_Mo_ahead Q 194 [vR 708, vI x1, vI x2, vI x3, vU] [vI v4] D')))) : Sg g M_Mo_ahead Q 172 [vR 708, vI x1, vI x2, vI x3, z4] [] D := by
  unfold Sg
  refine q_mask [false, false, false, false, true] (L' := [vR 708, vI x1, vI x2, vI x3, vU]) rfl ?_
  refine q_aload_n d_Mo_ahead_172 rfl ?_
  refine p_getI (k := 26) zc_Mo l_Mo_213 fi_Mo_aheadSteps d_Mo_ahead_173 zk_708 ?_
  refine q_if_eq (tgt := 197) d_Mo_ahead_176 (by decide) (fun c1 => ?_) (fun c1 => ?_)
  · have h := h.1 (c1)
    exact h
  · have h := h.2 (c1)
    obtain ⟨⟨o2, o3⟩, h⟩ := h
    refine q_aload_n d_Mo_ahead_179 rfl ?_
    refine q_bipush d_Mo_ahead_180 kb_111 ?_
    refine q_bipush d_Mo_ahead_182 kb_24 ?_
    refine q_aload_n d_Mo_ahead_184 rfl ?_
    refine p_getI (k := 26) zc_Mo l_Mo_213 fi_Mo_aheadSteps d_Mo_ahead_185 zk_708 ?_
    refine q_iadd d_Mo_ahead_188 o2 ?_
    refine q_iconst d_Mo_ahead_189 (by decide) ?_
    refine q_isub d_Mo_ahead_190 o3 ?_
    refine p_callV (as := [vI 111, vI ((24 + (D 708 26)) - 1)]) (st := []) (a := 708) mc_Mo_isSame mv_Mo_isSame l_Mo_225 zc_Mo rfl d_Mo_ahead_191 rfl rfl rfl zk_708 (CI.to ?_)
    exact h
theorem s_Mo_ahead_139 {x1 : Int} {x2 : Int} {x3 : Int} {x4 : Int}  (h : CV g M_Mo_workAhead [vR 708, vI x2, vI x3, vI x4] D (fun D' => Sg g M_Mo_ahead Q 147 [vR 708, vI x1, vI x2, vI x3, vI x4] [] D')) : Sg g M_Mo_ahead Q 139 [vR 708, vI x1, vI x2, vI x3, vI x4] [] D := by
  unfold Sg
  refine q_aload_n d_Mo_ahead_139 rfl ?_
  refine q_iload_n d_Mo_ahead_140 rfl ?_
  refine q_iload_n d_Mo_ahead_141 rfl ?_
  refine q_iload d_Mo_ahead_142 rfl ?_
  refine p_callV (as := [vI x2, vI x3, vI x4]) (st := []) (a := 708) mc_Mo_workAhead mv_Mo_workAhead l_Mo_222 zc_Mo rfl d_Mo_ahead_144 rfl rfl rfl zk_708 (CV.to ?_)
  exact h
theorem s_Mo_ahead_197 {x1 : Int} {x2 : Int} {x3 : Int} {z4 : VV}  (h : (R32 (24 + (D 708 26))) ∧ CV g M_Mo_keep [vR 708, vI 111, vI (24 + (D 708 26))] D (fun D' => Sg g M_Mo_ahead Q 210 [vR 708, vI x1, vI x2, vI x3, vU] [] D')) : Sg g M_Mo_ahead Q 197 [vR 708, vI x1, vI x2, vI x3, z4] [] D := by
  unfold Sg
  refine q_mask [false, false, false, false, true] (L' := [vR 708, vI x1, vI x2, vI x3, vU]) rfl ?_
  obtain ⟨o1, h⟩ := h
  refine q_aload_n d_Mo_ahead_197 rfl ?_
  refine q_bipush d_Mo_ahead_198 kb_111 ?_
  refine q_bipush d_Mo_ahead_200 kb_24 ?_
  refine q_aload_n d_Mo_ahead_202 rfl ?_
  refine p_getI (k := 26) zc_Mo l_Mo_213 fi_Mo_aheadSteps d_Mo_ahead_203 zk_708 ?_
  refine q_iadd d_Mo_ahead_206 o1 ?_
  refine p_callV (as := [vI 111, vI (24 + (D 708 26))]) (st := []) (a := 708) mc_Mo_keep mv_Mo_keep l_Mo_204 zc_Mo rfl d_Mo_ahead_207 rfl rfl rfl zk_708 (CV.to ?_)
  exact h
theorem s_Mo_ahead_194 {x1 : Int} {x2 : Int} {x3 : Int} {z4 : VV} {y0 : Int}  (h : ((¬ y0 = 0 → Sg g M_Mo_ahead Q 230 [vR 708, vI x1, vI x2, vI x3, vU] [] D) ∧ (y0 = 0 → Sg g M_Mo_ahead Q 197 [vR 708, vI x1, vI x2, vI x3, vU] [] D))) : Sg g M_Mo_ahead Q 194 [vR 708, vI x1, vI x2, vI x3, z4] [vI y0] D := by
  unfold Sg
  refine q_mask [false, false, false, false, true] (L' := [vR 708, vI x1, vI x2, vI x3, vU]) rfl ?_
  refine q_if_ne (tgt := 230) d_Mo_ahead_194 (by decide) (fun c1 => ?_) (fun c1 => ?_)
  · have h := h.1 (c1)
    exact h
  · have h := h.2 (c1)
    exact h
theorem s_Mo_ahead_147 {x1 : Int} {x2 : Int} {x3 : Int} {z4 : VV}  (h : Sg g M_Mo_ahead Q 166 [vR 708, vI x1, vI x2, vI x3, vU] [] D) : Sg g M_Mo_ahead Q 147 [vR 708, vI x1, vI x2, vI x3, z4] [] D := by
  unfold Sg
  refine q_mask [false, false, false, false, true] (L' := [vR 708, vI x1, vI x2, vI x3, vU]) rfl ?_
  refine q_goto (tgt := 166) d_Mo_ahead_147 (by decide) ?_
  exact h
theorem s_Mo_ahead_210 {x1 : Int} {x2 : Int} {x3 : Int} {z4 : VV}  (h : ((0 ≤ D 708 26 ∧ D 708 26 < 24)) ∧ (∀ D2, D2 = zw D 728 (D 708 26) x2 → (R32 ((D2 708 26) + 1)) ∧ (∀ D5, D5 = zw D2 708 26 ((D2 708 26) + 1) → Sg g M_Mo_ahead Q 230 [vR 708, vI x1, vI x2, vI x3, vU] [] D5))) : Sg g M_Mo_ahead Q 210 [vR 708, vI x1, vI x2, vI x3, z4] [] D := by
  unfold Sg
  refine q_mask [false, false, false, false, true] (L' := [vR 708, vI x1, vI x2, vI x3, vU]) rfl ?_
  obtain ⟨o1, h⟩ := h
  refine q_aload_n d_Mo_ahead_210 rfl ?_
  refine p_getR (k := 27) (b := 728) zc_Mo l_Mo_69 fr_Mo_aheadBegins d_Mo_ahead_211 zk_708 rfl ?_
  refine q_aload_n d_Mo_ahead_214 rfl ?_
  refine p_getI (k := 26) zc_Mo l_Mo_213 fi_Mo_aheadSteps d_Mo_ahead_215 zk_708 ?_
  refine q_iload_n d_Mo_ahead_218 rfl ?_
  refine p_iast d_Mo_ahead_219 zk_728 o1 (fun D2 e3 => ?_)
  have h := h D2 e3
  obtain ⟨o4, h⟩ := h
  refine q_aload_n d_Mo_ahead_220 rfl ?_
  refine q_dup d_Mo_ahead_221 rfl ?_
  refine p_getI (k := 26) zc_Mo l_Mo_213 fi_Mo_aheadSteps d_Mo_ahead_222 zk_708 ?_
  refine q_iconst d_Mo_ahead_225 (by decide) ?_
  refine q_iadd d_Mo_ahead_226 o4 ?_
  refine p_putI (k := 26) zc_Mo l_Mo_213 fp_Mo_aheadSteps (Or.inl rfl) d_Mo_ahead_227 zk_708 (fun D5 e6 => ?_)
  have h := h D5 e6
  exact h
theorem s_Mo_ahead_230 {x1 : Int} {z2 : VV} {x3 : Int} {z4 : VV}  (h : (R32 ((D 708 26) - 1) ∧ (0 ≤ (D 708 26) - 1 ∧ (D 708 26) - 1 < 24)) ∧ (∀ D3, D3 = zw D 729 ((D 708 26) - 1) x3 → Sg g M_Mo_ahead Q 87 [vR 708, vI x1, vI x3, vI x3, vU] [] D3)) : Sg g M_Mo_ahead Q 230 [vR 708, vI x1, z2, vI x3, z4] [] D := by
  unfold Sg
  refine q_mask [false, false, true, false, true] (L' := [vR 708, vI x1, vU, vI x3, vU]) rfl ?_
  obtain ⟨⟨o1, o2⟩, h⟩ := h
  refine q_aload_n d_Mo_ahead_230 rfl ?_
  refine p_getR (k := 28) (b := 729) zc_Mo l_Mo_72 fr_Mo_aheadEnds d_Mo_ahead_231 zk_708 rfl ?_
  refine q_aload_n d_Mo_ahead_234 rfl ?_
  refine p_getI (k := 26) zc_Mo l_Mo_213 fi_Mo_aheadSteps d_Mo_ahead_235 zk_708 ?_
  refine q_iconst d_Mo_ahead_238 (by decide) ?_
  refine q_isub d_Mo_ahead_239 o1 ?_
  refine q_iload_n d_Mo_ahead_240 rfl ?_
  refine p_iast d_Mo_ahead_241 zk_729 o2 (fun D3 e4 => ?_)
  have h := h D3 e4
  refine q_iload_n d_Mo_ahead_242 rfl ?_
  refine q_istore_n d_Mo_ahead_243 (by decide) (L' := [vR 708, vI x1, vI x3, vI x3, vU]) rfl ?_
  refine q_goto (tgt := 87) d_Mo_ahead_244 (by decide) ?_
  exact h
theorem s_Mo_split_0   (h : (((D 708 10) = 0 → Sg g M_Mo_split Q 13 [vR 708, vU] [vI 1, vR 708] D) ∧ (¬ (D 708 10) = 0 → Sg g M_Mo_split Q 13 [vR 708, vU] [vI 0, vR 708] D))) : Sg g M_Mo_split Q 0 [vR 708, vU] [] D := by
  unfold Sg
  refine q_aload_n d_Mo_split_0 rfl ?_
  refine q_aload_n d_Mo_split_1 rfl ?_
  refine p_getI (k := 10) zc_Mo l_Mo_87 fi_Mo_planned d_Mo_split_2 zk_708 ?_
  refine q_if_eq (tgt := 12) d_Mo_split_5 (by decide) (fun c1 => ?_) (fun c1 => ?_)
  · have h := h.1 (c1)
    refine q_iconst d_Mo_split_12 (by decide) ?_
    exact h
  · have h := h.2 (c1)
    refine q_iconst d_Mo_split_8 (by decide) ?_
    refine q_goto (tgt := 13) d_Mo_split_9 (by decide) ?_
    exact h
theorem s_Mo_split_13 {z1 : VV} {y0 : Int}  (h : (∀ D1, D1 = zw D 708 0 y0 → (((D1 708 0) ≤ 0 → (∀ D4, D4 = zw D1 708 12 0 → Sg g M_Mo_split Q 32 [vR 708, vI 0] [] D4)) ∧ (¬ (D1 708 0) ≤ 0 → Q (some (vI 0)) zE D1)))) : Sg g M_Mo_split Q 13 [vR 708, z1] [vI y0, vR 708] D := by
  unfold Sg
  refine q_mask [false, true] (L' := [vR 708, vU]) rfl ?_
  refine p_putI (k := 0) zc_Mo l_Mo_91 fp_Mo_thrown (Or.inl rfl) d_Mo_split_13 zk_708 (fun D1 e2 => ?_)
  have h := h D1 e2
  refine q_aload_n d_Mo_split_16 rfl ?_
  refine p_getI (k := 0) zc_Mo l_Mo_91 fi_Mo_thrown d_Mo_split_17 zk_708 ?_
  refine q_if_le (tgt := 25) d_Mo_split_20 (by decide) (fun c3 => ?_) (fun c3 => ?_)
  · have h := h.1 (c3)
    refine q_aload_n d_Mo_split_25 rfl ?_
    refine q_iconst d_Mo_split_26 (by decide) ?_
    refine p_putI (k := 12) zc_Mo l_Mo_159 fp_Mo_isSplit (Or.inr ⟨rfl, by decide⟩) d_Mo_split_27 zk_708 (fun D4 e5 => ?_)
    have h := h D4 e5
    refine q_iconst d_Mo_split_30 (by decide) ?_
    refine q_istore_n d_Mo_split_31 (by decide) (L' := [vR 708, vI 0]) rfl ?_
    exact h
  · have h := h.2 (c3)
    refine q_iconst d_Mo_split_23 (by decide) ?_
    exact q_iret d_Mo_split_24 (Or.inl rfl) ⟨Nat.le_refl _, Nat.le_refl _⟩ h
theorem s_Mo_split_32 {x1 : Int}  (h : (((D 708 3) ≤ x1 → CV g M_Mo_set [vR 708, vI 224, vL 0] D (fun D' => Sg g M_Mo_split Q 92 [vR 708, vI x1] [] D')) ∧ (¬ (D 708 3) ≤ x1 → (((D 708 7) = 0 → Q (some (vI 0)) zE D) ∧ (¬ (D 708 7) = 0 → ((0 ≤ x1 ∧ x1 < 12) ∧ R32 ((D 708 7) - 1) ∧ (0 ≤ (D 708 7) - 1 ∧ (D 708 7) - 1 < 8) ∧ (0 ≤ x1 ∧ x1 < 12) ∧ R64 ((D 714 ((D 708 7) - 1)) * (D 721 x1))) ∧ (((D 720 x1) ≤ ((D 714 ((D 708 7) - 1)) * (D 721 x1)) → (R32 (x1 + 1)) ∧ Sg g M_Mo_split Q 32 [vR 708, vI (x1 + 1)] [] D) ∧ (¬ (D 720 x1) ≤ ((D 714 ((D 708 7) - 1)) * (D 721 x1)) → Q (some (vI 0)) zE D))))))) : Sg g M_Mo_split Q 32 [vR 708, vI x1] [] D := by
  unfold Sg
  refine q_iload_n d_Mo_split_32 rfl ?_
  refine q_aload_n d_Mo_split_33 rfl ?_
  refine p_getI (k := 3) zc_Mo l_Mo_153 fi_Mo_jobs d_Mo_split_34 zk_708 ?_
  refine q_icmp_ge (tgt := 84) d_Mo_split_37 (by decide) (fun c1 => ?_) (fun c1 => ?_)
  · have h := h.1 (c1)
    refine q_aload_n d_Mo_split_84 rfl ?_
    refine q_sipush d_Mo_split_85 ks_224 ?_
    refine q_lconst (x := 0) d_Mo_split_88 ⟨rfl, by decide⟩ ?_
    refine p_callV (as := [vI 224, vL 0]) (st := []) (a := 708) mc_Mo_set mv_Mo_set l_Mo_127 zc_Mo rfl d_Mo_split_89 rfl rfl rfl zk_708 (CV.to ?_)
    exact h
  · have h := h.2 (c1)
    refine q_aload_n d_Mo_split_40 rfl ?_
    refine p_getI (k := 7) zc_Mo l_Mo_163 fi_Mo_levels d_Mo_split_41 zk_708 ?_
    refine q_if_eq (tgt := 76) d_Mo_split_44 (by decide) (fun c3 => ?_) (fun c3 => ?_)
    · have h := h.1 (c3)
      refine q_iconst d_Mo_split_76 (by decide) ?_
      exact q_iret d_Mo_split_77 (Or.inl rfl) ⟨Nat.le_refl _, Nat.le_refl _⟩ h
    · have h := h.2 (c3)
      obtain ⟨⟨o4, o5, o6, o7, o8⟩, h⟩ := h
      refine q_aload_n d_Mo_split_47 rfl ?_
      refine p_getR (k := 17) (b := 720) zc_Mo l_Mo_45 fr_Mo_jobAbove d_Mo_split_48 zk_708 rfl ?_
      refine q_iload_n d_Mo_split_51 rfl ?_
      refine p_lald d_Mo_split_52 zk_720 o4 ?_
      refine q_aload_n d_Mo_split_53 rfl ?_
      refine p_getR (k := 8) (b := 714) zc_Mo l_Mo_25 fr_Mo_rates d_Mo_split_54 zk_708 rfl ?_
      refine q_aload_n d_Mo_split_57 rfl ?_
      refine p_getI (k := 7) zc_Mo l_Mo_163 fi_Mo_levels d_Mo_split_58 zk_708 ?_
      refine q_iconst d_Mo_split_61 (by decide) ?_
      refine q_isub d_Mo_split_62 o5 ?_
      refine p_iald d_Mo_split_63 zk_714 o6 ?_
      refine q_i2l d_Mo_split_64 ?_
      refine q_aload_n d_Mo_split_65 rfl ?_
      refine p_getR (k := 18) (b := 721) zc_Mo l_Mo_48 fr_Mo_jobBelow d_Mo_split_66 zk_708 rfl ?_
      refine q_iload_n d_Mo_split_69 rfl ?_
      refine p_lald d_Mo_split_70 zk_721 o7 ?_
      refine q_lmul d_Mo_split_71 o8 ?_
      refine q_lcmp d_Mo_split_72 ?_
      refine q_if_le (tgt := 78) d_Mo_split_73 (by decide) (fun c9 => ?_) (fun c9 => ?_)
      · have h := h.1 (zcmp_le.mp c9)
        obtain ⟨o10, h⟩ := h
        refine q_iinc d_Mo_split_78 rfl (by decide) o10 (L' := [vR 708, vI (x1 + 1)]) rfl ?_
        refine q_goto (tgt := 32) d_Mo_split_81 (by decide) ?_
        exact h
      · have h := h.2 ((not_congr zcmp_le).mp c9)
        refine q_iconst d_Mo_split_76 (by decide) ?_
        exact q_iret d_Mo_split_77 (Or.inl rfl) ⟨Nat.le_refl _, Nat.le_refl _⟩ h
theorem s_Mo_split_92 {z1 : VV}  (h : CV g M_Mo_set [vR 708, vI 225, vL 1] D (fun D' => Sg g M_Mo_split Q 100 [vR 708, vU] [] D')) : Sg g M_Mo_split Q 92 [vR 708, z1] [] D := by
  unfold Sg
  refine q_mask [false, true] (L' := [vR 708, vU]) rfl ?_
  refine q_aload_n d_Mo_split_92 rfl ?_
  refine q_sipush d_Mo_split_93 ks_225 ?_
  refine q_lconst (x := 1) d_Mo_split_96 ⟨rfl, by decide⟩ ?_
  refine p_callV (as := [vI 225, vL 1]) (st := []) (a := 708) mc_Mo_set mv_Mo_set l_Mo_127 zc_Mo rfl d_Mo_split_97 rfl rfl rfl zk_708 (CV.to ?_)
  exact h
theorem s_Mo_split_100 {z1 : VV}  (h : Sg g M_Mo_split Q 102 [vR 708, vI 0] [] D) : Sg g M_Mo_split Q 100 [vR 708, z1] [] D := by
  unfold Sg
  refine q_mask [false, true] (L' := [vR 708, vU]) rfl ?_
  refine q_iconst d_Mo_split_100 (by decide) ?_
  refine q_istore_n d_Mo_split_101 (by decide) (L' := [vR 708, vI 0]) rfl ?_
  exact h
theorem s_Mo_split_102 {x1 : Int}  (h : (((D 708 3) ≤ x1 → CV g M_Mo_keep [vR 708, vI 112, vI 110] D (fun D' => Sg g M_Mo_split Q 129 [vR 708, vI x1] [] D')) ∧ (¬ (D 708 3) ≤ x1 → CV g M_Mo_splitOne [vR 708, vI x1] D (fun D' => Sg g M_Mo_split Q 115 [vR 708, vI x1] [] D')))) : Sg g M_Mo_split Q 102 [vR 708, vI x1] [] D := by
  unfold Sg
  refine q_iload_n d_Mo_split_102 rfl ?_
  refine q_aload_n d_Mo_split_103 rfl ?_
  refine p_getI (k := 3) zc_Mo l_Mo_153 fi_Mo_jobs d_Mo_split_104 zk_708 ?_
  refine q_icmp_ge (tgt := 121) d_Mo_split_107 (by decide) (fun c1 => ?_) (fun c1 => ?_)
  · have h := h.1 (c1)
    refine q_aload_n d_Mo_split_121 rfl ?_
    refine q_bipush d_Mo_split_122 kb_112 ?_
    refine q_bipush d_Mo_split_124 kb_110 ?_
    refine p_callV (as := [vI 112, vI 110]) (st := []) (a := 708) mc_Mo_keep mv_Mo_keep l_Mo_204 zc_Mo rfl d_Mo_split_126 rfl rfl rfl zk_708 (CV.to ?_)
    exact h
  · have h := h.2 (c1)
    refine q_aload_n d_Mo_split_110 rfl ?_
    refine q_iload_n d_Mo_split_111 rfl ?_
    refine p_callV (as := [vI x1]) (st := []) (a := 708) mc_Mo_splitOne mv_Mo_splitOne l_Mo_229 zc_Mo rfl d_Mo_split_112 rfl rfl rfl zk_708 (CV.to ?_)
    exact h
theorem s_Mo_split_129 {z1 : VV}  (h : (∀ D1, D1 = zw D 708 12 1 → Q (some (vI 1)) zE D1)) : Sg g M_Mo_split Q 129 [vR 708, z1] [] D := by
  unfold Sg
  refine q_mask [false, true] (L' := [vR 708, vU]) rfl ?_
  refine q_aload_n d_Mo_split_129 rfl ?_
  refine q_iconst d_Mo_split_130 (by decide) ?_
  refine p_putI (k := 12) zc_Mo l_Mo_159 fp_Mo_isSplit (Or.inr ⟨rfl, by decide⟩) d_Mo_split_131 zk_708 (fun D1 e2 => ?_)
  have h := h D1 e2
  refine q_iconst d_Mo_split_134 (by decide) ?_
  exact q_iret d_Mo_split_135 (Or.inl rfl) ⟨Nat.le_refl _, Nat.le_refl _⟩ h
theorem s_Mo_split_115 {x1 : Int}  (h : (R32 (x1 + 1)) ∧ Sg g M_Mo_split Q 102 [vR 708, vI (x1 + 1)] [] D) : Sg g M_Mo_split Q 115 [vR 708, vI x1] [] D := by
  unfold Sg
  obtain ⟨o1, h⟩ := h
  refine q_iinc d_Mo_split_115 rfl (by decide) o1 (L' := [vR 708, vI (x1 + 1)]) rfl ?_
  refine q_goto (tgt := 102) d_Mo_split_118 (by decide) ?_
  exact h
theorem s_Mo_splitOne_0 {x1 : Int}  (h : ((0 ≤ x1 ∧ x1 < 12) ∧ (0 ≤ x1 ∧ x1 < 12)) ∧ Sg g M_Mo_splitOne Q 18 [vR 708, vI x1, vL (D 720 x1), vU, vL (D 721 x1), vU, vI 0, vU, vU, vU, vU] [] D) : Sg g M_Mo_splitOne Q 0 [vR 708, vI x1, vU, vU, vU, vU, vU, vU, vU, vU, vU] [] D := by
  unfold Sg
  obtain ⟨⟨o1, o2⟩, h⟩ := h
  refine q_aload_n d_Mo_splitOne_0 rfl ?_
  refine p_getR (k := 17) (b := 720) zc_Mo l_Mo_45 fr_Mo_jobAbove d_Mo_splitOne_1 zk_708 rfl ?_
  refine q_iload_n d_Mo_splitOne_4 rfl ?_
  refine p_lald d_Mo_splitOne_5 zk_720 o1 ?_
  refine q_lstore_n d_Mo_splitOne_6 (by decide) (L' := [vR 708, vI x1, vL (D 720 x1), vU, vU, vU, vU, vU, vU, vU, vU]) rfl ?_
  refine q_aload_n d_Mo_splitOne_7 rfl ?_
  refine p_getR (k := 18) (b := 721) zc_Mo l_Mo_48 fr_Mo_jobBelow d_Mo_splitOne_8 zk_708 rfl ?_
  refine q_iload_n d_Mo_splitOne_11 rfl ?_
  refine p_lald d_Mo_splitOne_12 zk_721 o2 ?_
  refine q_lstore d_Mo_splitOne_13 (by decide) (L' := [vR 708, vI x1, vL (D 720 x1), vU, vL (D 721 x1), vU, vU, vU, vU, vU, vU]) rfl ?_
  refine q_iconst d_Mo_splitOne_15 (by decide) ?_
  refine q_istore d_Mo_splitOne_16 (by decide) (L' := [vR 708, vI x1, vL (D 720 x1), vU, vL (D 721 x1), vU, vI 0, vU, vU, vU, vU]) rfl ?_
  exact h
theorem s_Mo_splitOne_18 {x1 : Int} {x2 : Int} {x4 : Int} {x6 : Int} {z7 : VV} {z8 : VV} {z9 : VV} {z10 : VV}  (h : ((0 ≤ x6 ∧ x6 < 8) ∧ R64 ((D 714 x6) * x4)) ∧ ((x2 ≤ ((D 714 x6) * x4) → ((0 ≤ x1 ∧ x1 < 12)) ∧ (∀ D5, D5 = zw D 732 x1 x6 → ((0 ≤ x6 ∧ x6 < 8) ∧ R64 ((D5 714 x6) * x4)) ∧ ((¬ ((D5 714 x6) * x4) = x2 → (R32 (x6 - 1) ∧ (0 ≤ x1 ∧ x1 < 12)) ∧ (∀ D12, D12 = zw D5 731 x1 (x6 - 1) → ((x6 ≤ 0 → Sg g M_Mo_splitOne Q 133 [vR 708, vI x1, vL x2, vU, vL x4, vU, vI x6, vU, vU, vU, vU] [vL 0] D12) ∧ (¬ x6 ≤ 0 → (R32 (x6 - 1) ∧ (0 ≤ x6 - 1 ∧ x6 - 1 < 8)) ∧ Sg g M_Mo_splitOne Q 133 [vR 708, vI x1, vL x2, vU, vL x4, vU, vI x6, vU, vU, vU, vU] [vL (D12 714 (x6 - 1))] D12)))) ∧ (((D5 714 x6) * x4) = x2 → ((0 ≤ x1 ∧ x1 < 12)) ∧ (∀ D18, D18 = zw D5 731 x1 x6 → (R32 (84 + x1) ∧ (0 ≤ x1 ∧ x1 < 12) ∧ R64 ((D18 713 x1) * x4)) ∧ CV g M_Mo_tell [vR 708, vI (84 + x1), vL ((D18 713 x1) * x4), vL x2] D18 (fun D' => Sg g M_Mo_splitOne Q 91 [vR 708, vI x1, vL x2, vU, vL x4, vU, vI x6, vU, vU, vU, vU] [] D')))))) ∧ (¬ x2 ≤ ((D 714 x6) * x4) → (R32 (x6 + 1)) ∧ Sg g M_Mo_splitOne Q 18 [vR 708, vI x1, vL x2, vU, vL x4, vU, vI (x6 + 1), vU, vU, vU, vU] [] D))) : Sg g M_Mo_splitOne Q 18 [vR 708, vI x1, vL x2, vU, vL x4, vU, vI x6, z7, z8, z9, z10] [] D := by
  unfold Sg
  refine q_mask [false, false, false, false, false, false, false, true, true, true, true] (L' := [vR 708, vI x1, vL x2, vU, vL x4, vU, vI x6, vU, vU, vU, vU]) rfl ?_
  obtain ⟨⟨o1, o2⟩, h⟩ := h
  refine q_aload_n d_Mo_splitOne_18 rfl ?_
  refine p_getR (k := 8) (b := 714) zc_Mo l_Mo_25 fr_Mo_rates d_Mo_splitOne_19 zk_708 rfl ?_
  refine q_iload d_Mo_splitOne_22 rfl ?_
  refine p_iald d_Mo_splitOne_24 zk_714 o1 ?_
  refine q_i2l d_Mo_splitOne_25 ?_
  refine q_lload d_Mo_splitOne_26 rfl ?_
  refine q_lmul d_Mo_splitOne_28 o2 ?_
  refine q_lload_n d_Mo_splitOne_29 rfl ?_
  refine q_lcmp d_Mo_splitOne_30 ?_
  refine q_if_ge (tgt := 40) d_Mo_splitOne_31 (by decide) (fun c3 => ?_) (fun c3 => ?_)
  · have h := h.1 (zcmp_ge.mp c3)
    obtain ⟨o4, h⟩ := h
    refine q_aload_n d_Mo_splitOne_40 rfl ?_
    refine p_getR (k := 31) (b := 732) zc_Mo l_Mo_81 fr_Mo_greater d_Mo_splitOne_41 zk_708 rfl ?_
    refine q_iload_n d_Mo_splitOne_44 rfl ?_
    refine q_iload d_Mo_splitOne_45 rfl ?_
    refine p_iast d_Mo_splitOne_47 zk_732 o4 (fun D5 e6 => ?_)
    have h := h D5 e6
    obtain ⟨⟨o7, o8⟩, h⟩ := h
    refine q_aload_n d_Mo_splitOne_48 rfl ?_
    refine p_getR (k := 8) (b := 714) zc_Mo l_Mo_25 fr_Mo_rates d_Mo_splitOne_49 zk_708 rfl ?_
    refine q_iload d_Mo_splitOne_52 rfl ?_
    refine p_iald d_Mo_splitOne_54 zk_714 o7 ?_
    refine q_i2l d_Mo_splitOne_55 ?_
    refine q_lload d_Mo_splitOne_56 rfl ?_
    refine q_lmul d_Mo_splitOne_58 o8 ?_
    refine q_lload_n d_Mo_splitOne_59 rfl ?_
    refine q_lcmp d_Mo_splitOne_60 ?_
    refine q_if_ne (tgt := 104) d_Mo_splitOne_61 (by decide) (fun c9 => ?_) (fun c9 => ?_)
    · have h := h.1 (zcmp_ne.mp c9)
      obtain ⟨⟨o10, o11⟩, h⟩ := h
      refine q_aload_n d_Mo_splitOne_104 rfl ?_
      refine p_getR (k := 30) (b := 731) zc_Mo l_Mo_78 fr_Mo_lesser d_Mo_splitOne_105 zk_708 rfl ?_
      refine q_iload_n d_Mo_splitOne_108 rfl ?_
      refine q_iload d_Mo_splitOne_109 rfl ?_
      refine q_iconst d_Mo_splitOne_111 (by decide) ?_
      refine q_isub d_Mo_splitOne_112 o10 ?_
      refine p_iast d_Mo_splitOne_113 zk_731 o11 (fun D12 e13 => ?_)
      have h := h D12 e13
      refine q_iload d_Mo_splitOne_114 rfl ?_
      refine q_if_le (tgt := 132) d_Mo_splitOne_116 (by decide) (fun c14 => ?_) (fun c14 => ?_)
      · have h := h.1 (c14)
        refine q_lconst (x := 0) d_Mo_splitOne_132 ⟨rfl, by decide⟩ ?_
        exact h
      · have h := h.2 (c14)
        obtain ⟨⟨o15, o16⟩, h⟩ := h
        refine q_aload_n d_Mo_splitOne_119 rfl ?_
        refine p_getR (k := 8) (b := 714) zc_Mo l_Mo_25 fr_Mo_rates d_Mo_splitOne_120 zk_708 rfl ?_
        refine q_iload d_Mo_splitOne_123 rfl ?_
        refine q_iconst d_Mo_splitOne_125 (by decide) ?_
        refine q_isub d_Mo_splitOne_126 o15 ?_
        refine p_iald d_Mo_splitOne_127 zk_714 o16 ?_
        refine q_i2l d_Mo_splitOne_128 ?_
        refine q_goto (tgt := 133) d_Mo_splitOne_129 (by decide) ?_
        exact h
    · have h := h.2 (zcmp_eq.mp c9)
      obtain ⟨o17, h⟩ := h
      refine q_aload_n d_Mo_splitOne_64 rfl ?_
      refine p_getR (k := 30) (b := 731) zc_Mo l_Mo_78 fr_Mo_lesser d_Mo_splitOne_65 zk_708 rfl ?_
      refine q_iload_n d_Mo_splitOne_68 rfl ?_
      refine q_iload d_Mo_splitOne_69 rfl ?_
      refine p_iast d_Mo_splitOne_71 zk_731 o17 (fun D18 e19 => ?_)
      have h := h D18 e19
      obtain ⟨⟨o20, o21, o22⟩, h⟩ := h
      refine q_aload_n d_Mo_splitOne_72 rfl ?_
      refine q_bipush d_Mo_splitOne_73 kb_84 ?_
      refine q_iload_n d_Mo_splitOne_75 rfl ?_
      refine q_iadd d_Mo_splitOne_76 o20 ?_
      refine q_aload_n d_Mo_splitOne_77 rfl ?_
      refine p_getR (k := 6) (b := 713) zc_Mo l_Mo_22 fr_Mo_works d_Mo_splitOne_78 zk_708 rfl ?_
      refine q_iload_n d_Mo_splitOne_81 rfl ?_
      refine p_iald d_Mo_splitOne_82 zk_713 o21 ?_
      refine q_i2l d_Mo_splitOne_83 ?_
      refine q_lload d_Mo_splitOne_84 rfl ?_
      refine q_lmul d_Mo_splitOne_86 o22 ?_
      refine q_lload_n d_Mo_splitOne_87 rfl ?_
      refine p_callV (as := [vI (84 + x1), vL ((D18 713 x1) * x4), vL x2]) (st := []) (a := 708) mc_Mo_tell mv_Mo_tell l_Mo_180 zc_Mo rfl d_Mo_splitOne_88 rfl rfl rfl zk_708 (CV.to ?_)
      exact h
  · have h := h.2 ((not_congr zcmp_ge).mp c3)
    obtain ⟨o24, h⟩ := h
    refine q_iinc d_Mo_splitOne_34 rfl (by decide) o24 (L' := [vR 708, vI x1, vL x2, vU, vL x4, vU, vI (x6 + 1), vU, vU, vU, vU]) rfl ?_
    refine q_goto (tgt := 18) d_Mo_splitOne_37 (by decide) ?_
    exact h
theorem s_Mo_splitOne_133 {x1 : Int} {x2 : Int} {x4 : Int} {x6 : Int} {z7 : VV} {z8 : VV} {z9 : VV} {z10 : VV} {y0 : Int}  (h : ((0 ≤ x6 ∧ x6 < 8) ∧ R32 (84 + x1) ∧ (0 ≤ x1 ∧ x1 < 12) ∧ R64 ((D 714 x6) * x4) ∧ R64 (((D 714 x6) * x4) - x2) ∧ R64 ((D 713 x1) * (((D 714 x6) * x4) - x2)) ∧ R64 ((D 714 x6) - y0) ∧ R64 (x2 * ((D 714 x6) - y0))) ∧ CV g M_Mo_tell [vR 708, vI (84 + x1), vL ((D 713 x1) * (((D 714 x6) * x4) - x2)), vL (x2 * ((D 714 x6) - y0))] D (fun D' => Sg g M_Mo_splitOne Q 175 [vR 708, vI x1, vL x2, vU, vL x4, vU, vI x6, vL y0, vU, vL (D 714 x6), vU] [] D')) : Sg g M_Mo_splitOne Q 133 [vR 708, vI x1, vL x2, vU, vL x4, vU, vI x6, z7, z8, z9, z10] [vL y0] D := by
  unfold Sg
  refine q_mask [false, false, false, false, false, false, false, true, true, true, true] (L' := [vR 708, vI x1, vL x2, vU, vL x4, vU, vI x6, vU, vU, vU, vU]) rfl ?_
  obtain ⟨⟨o1, o2, o3, o4, o5, o6, o7, o8⟩, h⟩ := h
  refine q_lstore d_Mo_splitOne_133 (by decide) (L' := [vR 708, vI x1, vL x2, vU, vL x4, vU, vI x6, vL y0, vU, vU, vU]) rfl ?_
  refine q_aload_n d_Mo_splitOne_135 rfl ?_
  refine p_getR (k := 8) (b := 714) zc_Mo l_Mo_25 fr_Mo_rates d_Mo_splitOne_136 zk_708 rfl ?_
  refine q_iload d_Mo_splitOne_139 rfl ?_
  refine p_iald d_Mo_splitOne_141 zk_714 o1 ?_
  refine q_i2l d_Mo_splitOne_142 ?_
  refine q_lstore d_Mo_splitOne_143 (by decide) (L' := [vR 708, vI x1, vL x2, vU, vL x4, vU, vI x6, vL y0, vU, vL (D 714 x6), vU]) rfl ?_
  refine q_aload_n d_Mo_splitOne_145 rfl ?_
  refine q_bipush d_Mo_splitOne_146 kb_84 ?_
  refine q_iload_n d_Mo_splitOne_148 rfl ?_
  refine q_iadd d_Mo_splitOne_149 o2 ?_
  refine q_aload_n d_Mo_splitOne_150 rfl ?_
  refine p_getR (k := 6) (b := 713) zc_Mo l_Mo_22 fr_Mo_works d_Mo_splitOne_151 zk_708 rfl ?_
  refine q_iload_n d_Mo_splitOne_154 rfl ?_
  refine p_iald d_Mo_splitOne_155 zk_713 o3 ?_
  refine q_i2l d_Mo_splitOne_156 ?_
  refine q_lload d_Mo_splitOne_157 rfl ?_
  refine q_lload d_Mo_splitOne_159 rfl ?_
  refine q_lmul d_Mo_splitOne_161 o4 ?_
  refine q_lload_n d_Mo_splitOne_162 rfl ?_
  refine q_lsub d_Mo_splitOne_163 o5 ?_
  refine q_lmul d_Mo_splitOne_164 o6 ?_
  refine q_lload_n d_Mo_splitOne_165 rfl ?_
  refine q_lload d_Mo_splitOne_166 rfl ?_
  refine q_lload d_Mo_splitOne_168 rfl ?_
  refine q_lsub d_Mo_splitOne_170 o7 ?_
  refine q_lmul d_Mo_splitOne_171 o8 ?_
  refine p_callV (as := [vI (84 + x1), vL ((D 713 x1) * (((D 714 x6) * x4) - x2)), vL (x2 * ((D 714 x6) - y0))]) (st := []) (a := 708) mc_Mo_tell mv_Mo_tell l_Mo_180 zc_Mo rfl d_Mo_splitOne_172 rfl rfl rfl zk_708 (CV.to ?_)
  exact h
theorem s_Mo_splitOne_91 {x1 : Int} {z2 : VV} {z3 : VV} {z4 : VV} {z5 : VV} {x6 : Int} {z7 : VV} {z8 : VV} {z9 : VV} {z10 : VV}  (h : (R32 (96 + x1)) ∧ CV g M_Mo_tell [vR 708, vI (96 + x1), vL 0, vL 1] D (fun D' => Sg g M_Mo_splitOne Q 101 [vR 708, vI x1, vU, vU, vU, vU, vI x6, vU, vU, vU, vU] [] D')) : Sg g M_Mo_splitOne Q 91 [vR 708, vI x1, z2, z3, z4, z5, vI x6, z7, z8, z9, z10] [] D := by
  unfold Sg
  refine q_mask [false, false, true, true, true, true, false, true, true, true, true] (L' := [vR 708, vI x1, vU, vU, vU, vU, vI x6, vU, vU, vU, vU]) rfl ?_
  obtain ⟨o1, h⟩ := h
  refine q_aload_n d_Mo_splitOne_91 rfl ?_
  refine q_bipush d_Mo_splitOne_92 kb_96 ?_
  refine q_iload_n d_Mo_splitOne_94 rfl ?_
  refine q_iadd d_Mo_splitOne_95 o1 ?_
  refine q_lconst (x := 0) d_Mo_splitOne_96 ⟨rfl, by decide⟩ ?_
  refine q_lconst (x := 1) d_Mo_splitOne_97 ⟨rfl, by decide⟩ ?_
  refine p_callV (as := [vI (96 + x1), vL 0, vL 1]) (st := []) (a := 708) mc_Mo_tell mv_Mo_tell l_Mo_180 zc_Mo rfl d_Mo_splitOne_98 rfl rfl rfl zk_708 (CV.to ?_)
  exact h
theorem s_Mo_splitOne_175 {x1 : Int} {x2 : Int} {x4 : Int} {x6 : Int} {x7 : Int} {x9 : Int}  (h : (R32 (96 + x1) ∧ (0 ≤ x1 ∧ x1 < 12) ∧ R64 (x7 * x4) ∧ R64 (x2 - (x7 * x4)) ∧ R64 ((D 713 x1) * (x2 - (x7 * x4))) ∧ R64 (x9 - x7) ∧ R64 (x2 * (x9 - x7))) ∧ CV g M_Mo_tell [vR 708, vI (96 + x1), vL ((D 713 x1) * (x2 - (x7 * x4))), vL (x2 * (x9 - x7))] D (fun D' => Sg g M_Mo_splitOne Q 205 [vR 708, vI x1, vL x2, vU, vL x4, vU, vI x6, vL x7, vU, vL x9, vU] [] D')) : Sg g M_Mo_splitOne Q 175 [vR 708, vI x1, vL x2, vU, vL x4, vU, vI x6, vL x7, vU, vL x9, vU] [] D := by
  unfold Sg
  obtain ⟨⟨o1, o2, o3, o4, o5, o6, o7⟩, h⟩ := h
  refine q_aload_n d_Mo_splitOne_175 rfl ?_
  refine q_bipush d_Mo_splitOne_176 kb_96 ?_
  refine q_iload_n d_Mo_splitOne_178 rfl ?_
  refine q_iadd d_Mo_splitOne_179 o1 ?_
  refine q_aload_n d_Mo_splitOne_180 rfl ?_
  refine p_getR (k := 6) (b := 713) zc_Mo l_Mo_22 fr_Mo_works d_Mo_splitOne_181 zk_708 rfl ?_
  refine q_iload_n d_Mo_splitOne_184 rfl ?_
  refine p_iald d_Mo_splitOne_185 zk_713 o2 ?_
  refine q_i2l d_Mo_splitOne_186 ?_
  refine q_lload_n d_Mo_splitOne_187 rfl ?_
  refine q_lload d_Mo_splitOne_188 rfl ?_
  refine q_lload d_Mo_splitOne_190 rfl ?_
  refine q_lmul d_Mo_splitOne_192 o3 ?_
  refine q_lsub d_Mo_splitOne_193 o4 ?_
  refine q_lmul d_Mo_splitOne_194 o5 ?_
  refine q_lload_n d_Mo_splitOne_195 rfl ?_
  refine q_lload d_Mo_splitOne_196 rfl ?_
  refine q_lload d_Mo_splitOne_198 rfl ?_
  refine q_lsub d_Mo_splitOne_200 o6 ?_
  refine q_lmul d_Mo_splitOne_201 o7 ?_
  refine p_callV (as := [vI (96 + x1), vL ((D 713 x1) * (x2 - (x7 * x4))), vL (x2 * (x9 - x7))]) (st := []) (a := 708) mc_Mo_tell mv_Mo_tell l_Mo_180 zc_Mo rfl d_Mo_splitOne_202 rfl rfl rfl zk_708 (CV.to ?_)
  exact h
theorem s_Mo_splitOne_101 {x1 : Int} {z2 : VV} {z3 : VV} {z4 : VV} {z5 : VV} {x6 : Int} {z7 : VV} {z8 : VV} {z9 : VV} {z10 : VV}  (h : Sg g M_Mo_splitOne Q 205 [vR 708, vI x1, vU, vU, vU, vU, vI x6, vU, vU, vU, vU] [] D) : Sg g M_Mo_splitOne Q 101 [vR 708, vI x1, z2, z3, z4, z5, vI x6, z7, z8, z9, z10] [] D := by
  unfold Sg
  refine q_mask [false, false, true, true, true, true, false, true, true, true, true] (L' := [vR 708, vI x1, vU, vU, vU, vU, vI x6, vU, vU, vU, vU]) rfl ?_
  refine q_goto (tgt := 205) d_Mo_splitOne_101 (by decide) ?_
  exact h
theorem s_Mo_splitOne_205 {x1 : Int} {z2 : VV} {z3 : VV} {z4 : VV} {z5 : VV} {x6 : Int} {z7 : VV} {z8 : VV} {z9 : VV} {z10 : VV}  (h : (R32 (84 + x1) ∧ (0 ≤ x1 ∧ x1 < 12)) ∧ ((0 ≤ (D 731 x1) → ((0 ≤ x1 ∧ x1 < 12) ∧ (0 ≤ D 731 x1 ∧ D 731 x1 < 8)) ∧ Sg g M_Mo_splitOne Q 234 [vR 708, vI x1, vU, vU, vU, vU, vI x6, vU, vU, vU, vU] [vI (D 715 (D 731 x1)), vI (84 + x1), vR 708] D) ∧ (¬ 0 ≤ (D 731 x1) → Sg g M_Mo_splitOne Q 234 [vR 708, vI x1, vU, vU, vU, vU, vI x6, vU, vU, vU, vU] [vI 0, vI (84 + x1), vR 708] D))) : Sg g M_Mo_splitOne Q 205 [vR 708, vI x1, z2, z3, z4, z5, vI x6, z7, z8, z9, z10] [] D := by
  unfold Sg
  refine q_mask [false, false, true, true, true, true, false, true, true, true, true] (L' := [vR 708, vI x1, vU, vU, vU, vU, vI x6, vU, vU, vU, vU]) rfl ?_
  obtain ⟨⟨o1, o2⟩, h⟩ := h
  refine q_aload_n d_Mo_splitOne_205 rfl ?_
  refine q_bipush d_Mo_splitOne_206 kb_84 ?_
  refine q_iload_n d_Mo_splitOne_208 rfl ?_
  refine q_iadd d_Mo_splitOne_209 o1 ?_
  refine q_aload_n d_Mo_splitOne_210 rfl ?_
  refine p_getR (k := 30) (b := 731) zc_Mo l_Mo_78 fr_Mo_lesser d_Mo_splitOne_211 zk_708 rfl ?_
  refine q_iload_n d_Mo_splitOne_214 rfl ?_
  refine p_iald d_Mo_splitOne_215 zk_731 o2 ?_
  refine q_if_ge (tgt := 223) d_Mo_splitOne_216 (by decide) (fun c3 => ?_) (fun c3 => ?_)
  · have h := h.1 (c3)
    obtain ⟨⟨o4, o5⟩, h⟩ := h
    refine q_aload_n d_Mo_splitOne_223 rfl ?_
    refine p_getR (k := 9) (b := 715) zc_Mo l_Mo_28 fr_Mo_costs d_Mo_splitOne_224 zk_708 rfl ?_
    refine q_aload_n d_Mo_splitOne_227 rfl ?_
    refine p_getR (k := 30) (b := 731) zc_Mo l_Mo_78 fr_Mo_lesser d_Mo_splitOne_228 zk_708 rfl ?_
    refine q_iload_n d_Mo_splitOne_231 rfl ?_
    refine p_iald d_Mo_splitOne_232 zk_731 o4 ?_
    refine p_iald d_Mo_splitOne_233 zk_715 o5 ?_
    exact h
  · have h := h.2 (c3)
    refine q_iconst d_Mo_splitOne_219 (by decide) ?_
    refine q_goto (tgt := 234) d_Mo_splitOne_220 (by decide) ?_
    exact h
theorem s_Mo_splitOne_234 {x1 : Int} {z2 : VV} {z3 : VV} {z4 : VV} {z5 : VV} {x6 : Int} {z7 : VV} {z8 : VV} {z9 : VV} {z10 : VV} {y0 : Int} {y1 : Int}  (h : CV g M_Mo_pay [vR 708, vI y1, vI y0] D (fun D' => Sg g M_Mo_splitOne Q 237 [vR 708, vI x1, vU, vU, vU, vU, vI x6, vU, vU, vU, vU] [] D')) : Sg g M_Mo_splitOne Q 234 [vR 708, vI x1, z2, z3, z4, z5, vI x6, z7, z8, z9, z10] [vI y0, vI y1, vR 708] D := by
  unfold Sg
  refine q_mask [false, false, true, true, true, true, false, true, true, true, true] (L' := [vR 708, vI x1, vU, vU, vU, vU, vI x6, vU, vU, vU, vU]) rfl ?_
  refine p_callV (as := [vI y1, vI y0]) (st := []) (a := 708) mc_Mo_pay mv_Mo_pay l_Mo_232 zc_Mo rfl d_Mo_splitOne_234 rfl rfl rfl zk_708 (CV.to ?_)
  exact h
theorem s_Mo_splitOne_237 {x1 : Int} {z2 : VV} {z3 : VV} {z4 : VV} {z5 : VV} {x6 : Int} {z7 : VV} {z8 : VV} {z9 : VV} {z10 : VV}  (h : (R32 (96 + x1) ∧ (0 ≤ x6 ∧ x6 < 8)) ∧ CV g M_Mo_pay [vR 708, vI (96 + x1), vI (D 715 x6)] D (fun D' => Sg g M_Mo_splitOne Q 252 [vR 708, vI x1, vU, vU, vU, vU, vI x6, vU, vU, vU, vU] [] D')) : Sg g M_Mo_splitOne Q 237 [vR 708, vI x1, z2, z3, z4, z5, vI x6, z7, z8, z9, z10] [] D := by
  unfold Sg
  refine q_mask [false, false, true, true, true, true, false, true, true, true, true] (L' := [vR 708, vI x1, vU, vU, vU, vU, vI x6, vU, vU, vU, vU]) rfl ?_
  obtain ⟨⟨o1, o2⟩, h⟩ := h
  refine q_aload_n d_Mo_splitOne_237 rfl ?_
  refine q_bipush d_Mo_splitOne_238 kb_96 ?_
  refine q_iload_n d_Mo_splitOne_240 rfl ?_
  refine q_iadd d_Mo_splitOne_241 o1 ?_
  refine q_aload_n d_Mo_splitOne_242 rfl ?_
  refine p_getR (k := 9) (b := 715) zc_Mo l_Mo_28 fr_Mo_costs d_Mo_splitOne_243 zk_708 rfl ?_
  refine q_iload d_Mo_splitOne_246 rfl ?_
  refine p_iald d_Mo_splitOne_248 zk_715 o2 ?_
  refine p_callV (as := [vI (96 + x1), vI (D 715 x6)]) (st := []) (a := 708) mc_Mo_pay mv_Mo_pay l_Mo_232 zc_Mo rfl d_Mo_splitOne_249 rfl rfl rfl zk_708 (CV.to ?_)
  exact h
theorem s_Mo_splitOne_252 {z0 : VV} {z1 : VV} {z2 : VV} {z3 : VV} {z4 : VV} {z5 : VV} {z6 : VV} {z7 : VV} {z8 : VV} {z9 : VV} {z10 : VV}  (h : Q none zE D) : Sg g M_Mo_splitOne Q 252 [z0, z1, z2, z3, z4, z5, z6, z7, z8, z9, z10] [] D := by
  unfold Sg
  refine q_mask [true, true, true, true, true, true, true, true, true, true, true] (L' := [vU, vU, vU, vU, vU, vU, vU, vU, vU, vU, vU]) rfl ?_
  exact q_vret d_Mo_splitOne_252 rfl ⟨Nat.le_refl _, Nat.le_refl _⟩ h
theorem s_Mo_pay_0 {x1 : Int} {x2 : Int}  (h : CV g M_Mo_keep [vR 708, vI x1, vI 111] D (fun D' => Sg g M_Mo_pay Q 7 [vR 708, vI x1, vI x2] [] D')) : Sg g M_Mo_pay Q 0 [vR 708, vI x1, vI x2] [] D := by
  unfold Sg
  refine q_aload_n d_Mo_pay_0 rfl ?_
  refine q_iload_n d_Mo_pay_1 rfl ?_
  refine q_bipush d_Mo_pay_2 kb_111 ?_
  refine p_callV (as := [vI x1, vI 111]) (st := []) (a := 708) mc_Mo_keep mv_Mo_keep l_Mo_204 zc_Mo rfl d_Mo_pay_4 rfl rfl rfl zk_708 (CV.to ?_)
  exact h
theorem s_Mo_pay_7 {z1 : VV} {x2 : Int}  (h : CV g M_Mo_multiplyBy [vR 708, vI 222, vI x2] D (fun D' => Sg g M_Mo_pay Q 15 [vR 708, vU, vI x2] [] D')) : Sg g M_Mo_pay Q 7 [vR 708, z1, vI x2] [] D := by
  unfold Sg
  refine q_mask [false, true, false] (L' := [vR 708, vU, vI x2]) rfl ?_
  refine q_aload_n d_Mo_pay_7 rfl ?_
  refine q_sipush d_Mo_pay_8 ks_222 ?_
  refine q_iload_n d_Mo_pay_11 rfl ?_
  refine p_callV (as := [vI 222, vI x2]) (st := []) (a := 708) mc_Mo_multiplyBy mv_Mo_multiplyBy l_Mo_124 zc_Mo rfl d_Mo_pay_12 rfl rfl rfl zk_708 (CV.to ?_)
  exact h
theorem s_Mo_pay_15 {z1 : VV} {z2 : VV}  (h : CV g M_Mo_reduce [vR 708, vI 111] D (fun D' => Sg g M_Mo_pay Q 21 [vR 708, vU, vU] [] D')) : Sg g M_Mo_pay Q 15 [vR 708, z1, z2] [] D := by
  unfold Sg
  refine q_mask [false, true, true] (L' := [vR 708, vU, vU]) rfl ?_
  refine q_aload_n d_Mo_pay_15 rfl ?_
  refine q_bipush d_Mo_pay_16 kb_111 ?_
  refine p_callV (as := [vI 111]) (st := []) (a := 708) mc_Mo_reduce mv_Mo_reduce l_Mo_137 zc_Mo rfl d_Mo_pay_18 rfl rfl rfl zk_708 (CV.to ?_)
  exact h
theorem s_Mo_pay_21 {z1 : VV} {z2 : VV}  (h : CV g M_Mo_sumUp [vR 708] D (fun D' => Sg g M_Mo_pay Q 25 [vR 708, vU, vU] [] D')) : Sg g M_Mo_pay Q 21 [vR 708, z1, z2] [] D := by
  unfold Sg
  refine q_mask [false, true, true] (L' := [vR 708, vU, vU]) rfl ?_
  refine q_aload_n d_Mo_pay_21 rfl ?_
  refine p_callV (as := []) (st := []) (a := 708) mc_Mo_sumUp mv_Mo_sumUp l_Mo_146 zc_Mo rfl d_Mo_pay_22 rfl rfl rfl zk_708 (CV.to ?_)
  exact h
theorem s_Mo_pay_25 {z0 : VV} {z1 : VV} {z2 : VV}  (h : Q none zE D) : Sg g M_Mo_pay Q 25 [z0, z1, z2] [] D := by
  unfold Sg
  refine q_mask [true, true, true] (L' := [vU, vU, vU]) rfl ?_
  exact q_vret d_Mo_pay_25 rfl ⟨Nat.le_refl _, Nat.le_refl _⟩ h
theorem s_Mo_levelOf_0 {x1 : Int} {x2 : Int}  (h : (∀ D1, D1 = zw D 708 0 0 → (((D1 708 12) = 0 → Q (some (vI (-2))) zE D1) ∧ (¬ (D1 708 12) = 0 → (R32 ((D1 708 3) - 1)) ∧ CI g M_Mo_in [vI x1, vI 0, vI ((D1 708 3) - 1)] D1 (fun v5 D' => Sg g M_Mo_levelOf Q 23 [vR 708, vI x1, vI x2] [vI v5] D'))))) : Sg g M_Mo_levelOf Q 0 [vR 708, vI x1, vI x2] [] D := by
  unfold Sg
  refine q_aload_n d_Mo_levelOf_0 rfl ?_
  refine q_iconst d_Mo_levelOf_1 (by decide) ?_
  refine p_putI (k := 0) zc_Mo l_Mo_91 fp_Mo_thrown (Or.inl rfl) d_Mo_levelOf_2 zk_708 (fun D1 e2 => ?_)
  have h := h D1 e2
  refine q_aload_n d_Mo_levelOf_5 rfl ?_
  refine p_getI (k := 12) zc_Mo l_Mo_159 fi_Mo_isSplit d_Mo_levelOf_6 zk_708 ?_
  refine q_if_eq (tgt := 35) d_Mo_levelOf_9 (by decide) (fun c3 => ?_) (fun c3 => ?_)
  · have h := h.1 (c3)
    refine q_bipush d_Mo_levelOf_35 kb_m2 ?_
    exact q_iret d_Mo_levelOf_37 (Or.inl rfl) ⟨Nat.le_refl _, Nat.le_refl _⟩ h
  · have h := h.2 (c3)
    obtain ⟨o4, h⟩ := h
    refine q_iload_n d_Mo_levelOf_12 rfl ?_
    refine q_iconst d_Mo_levelOf_13 (by decide) ?_
    refine q_aload_n d_Mo_levelOf_14 rfl ?_
    refine p_getI (k := 3) zc_Mo l_Mo_153 fi_Mo_jobs d_Mo_levelOf_15 zk_708 ?_
    refine q_iconst d_Mo_levelOf_18 (by decide) ?_
    refine q_isub d_Mo_levelOf_19 o4 ?_
    refine p_callS (as := [vI x1, vI 0, vI ((D1 708 3) - 1)]) (st := []) mc_Mo_in ms_Mo_in l_Mo_149 d_Mo_levelOf_20 rfl rfl rfl (CI.to ?_)
    exact h
theorem s_Mo_levelOf_23 {x1 : Int} {x2 : Int} {y0 : Int}  (h : ((y0 = 0 → Q (some (vI (-2))) zE D) ∧ (¬ y0 = 0 → CI g M_Mo_in [vI x2, vI 0, vI 1] D (fun v2 D' => Sg g M_Mo_levelOf Q 32 [vR 708, vI x1, vI x2] [vI v2] D')))) : Sg g M_Mo_levelOf Q 23 [vR 708, vI x1, vI x2] [vI y0] D := by
  unfold Sg
  refine q_if_eq (tgt := 35) d_Mo_levelOf_23 (by decide) (fun c1 => ?_) (fun c1 => ?_)
  · have h := h.1 (c1)
    refine q_bipush d_Mo_levelOf_35 kb_m2 ?_
    exact q_iret d_Mo_levelOf_37 (Or.inl rfl) ⟨Nat.le_refl _, Nat.le_refl _⟩ h
  · have h := h.2 (c1)
    refine q_iload_n d_Mo_levelOf_26 rfl ?_
    refine q_iconst d_Mo_levelOf_27 (by decide) ?_
    refine q_iconst d_Mo_levelOf_28 (by decide) ?_
    refine p_callS (as := [vI x2, vI 0, vI 1]) (st := []) mc_Mo_in ms_Mo_in l_Mo_149 d_Mo_levelOf_29 rfl rfl rfl (CI.to ?_)
    exact h
theorem s_Mo_levelOf_32 {x1 : Int} {x2 : Int} {y0 : Int}  (h : ((¬ y0 = 0 → ((¬ x2 = 0 → ((0 ≤ x1 ∧ x1 < 12)) ∧ Q (some (vI (D 732 x1))) zE D) ∧ (x2 = 0 → ((0 ≤ x1 ∧ x1 < 12)) ∧ Q (some (vI (D 731 x1))) zE D))) ∧ (y0 = 0 → Q (some (vI (-2))) zE D))) : Sg g M_Mo_levelOf Q 32 [vR 708, vI x1, vI x2] [vI y0] D := by
  unfold Sg
  refine q_if_ne (tgt := 38) d_Mo_levelOf_32 (by decide) (fun c1 => ?_) (fun c1 => ?_)
  · have h := h.1 (c1)
    refine q_iload_n d_Mo_levelOf_38 rfl ?_
    refine q_if_ne (tgt := 51) d_Mo_levelOf_39 (by decide) (fun c2 => ?_) (fun c2 => ?_)
    · have h := h.1 (c2)
      obtain ⟨o3, h⟩ := h
      refine q_aload_n d_Mo_levelOf_51 rfl ?_
      refine p_getR (k := 31) (b := 732) zc_Mo l_Mo_81 fr_Mo_greater d_Mo_levelOf_52 zk_708 rfl ?_
      refine q_iload_n d_Mo_levelOf_55 rfl ?_
      refine p_iald d_Mo_levelOf_56 zk_732 o3 ?_
      exact q_iret d_Mo_levelOf_57 (Or.inl rfl) ⟨Nat.le_refl _, Nat.le_refl _⟩ h
    · have h := h.2 (c2)
      obtain ⟨o4, h⟩ := h
      refine q_aload_n d_Mo_levelOf_42 rfl ?_
      refine p_getR (k := 30) (b := 731) zc_Mo l_Mo_78 fr_Mo_lesser d_Mo_levelOf_43 zk_708 rfl ?_
      refine q_iload_n d_Mo_levelOf_46 rfl ?_
      refine p_iald d_Mo_levelOf_47 zk_731 o4 ?_
      refine q_goto (tgt := 57) d_Mo_levelOf_48 (by decide) ?_
      exact q_iret d_Mo_levelOf_57 (Or.inl rfl) ⟨Nat.le_refl _, Nat.le_refl _⟩ h
  · have h := h.2 (c1)
    refine q_bipush d_Mo_levelOf_35 kb_m2 ?_
    exact q_iret d_Mo_levelOf_37 (Or.inl rfl) ⟨Nat.le_refl _, Nat.le_refl _⟩ h
theorem s_Mo_step_0 {x1 : Int} {x2 : Int} {x3 : Int}  (h : CI g M_Mo_in [vI x1, vI 0, vI 1] D (fun v1 D' => Sg g M_Mo_step Q 7 [vR 708, vI x1, vI x2, vI x3] [vI v1, vR 708] D')) : Sg g M_Mo_step Q 0 [vR 708, vI x1, vI x2, vI x3] [] D := by
  unfold Sg
  refine q_aload_n d_Mo_step_0 rfl ?_
  refine q_iload_n d_Mo_step_1 rfl ?_
  refine q_iconst d_Mo_step_2 (by decide) ?_
  refine q_iconst d_Mo_step_3 (by decide) ?_
  refine p_callS (as := [vI x1, vI 0, vI 1]) (st := [vR 708]) mc_Mo_in ms_Mo_in l_Mo_149 d_Mo_step_4 rfl rfl rfl (CI.to ?_)
  exact h
theorem s_Mo_step_7 {x1 : Int} {x2 : Int} {x3 : Int} {y0 : Int}  (h : ((y0 = 0 → Sg g M_Mo_step Q 19 [vR 708, vI x1, vI x2, vI x3] [vR 708] D) ∧ (¬ y0 = 0 → CI g M_Mo_in [vI x3, vI 0, vI 1] D (fun v2 D' => Sg g M_Mo_step Q 16 [vR 708, vI x1, vI x2, vI x3] [vI v2, vR 708] D')))) : Sg g M_Mo_step Q 7 [vR 708, vI x1, vI x2, vI x3] [vI y0, vR 708] D := by
  unfold Sg
  refine q_if_eq (tgt := 19) d_Mo_step_7 (by decide) (fun c1 => ?_) (fun c1 => ?_)
  · have h := h.1 (c1)
    exact h
  · have h := h.2 (c1)
    refine q_iload_n d_Mo_step_10 rfl ?_
    refine q_iconst d_Mo_step_11 (by decide) ?_
    refine q_iconst d_Mo_step_12 (by decide) ?_
    refine p_callS (as := [vI x3, vI 0, vI 1]) (st := [vR 708]) mc_Mo_in ms_Mo_in l_Mo_149 d_Mo_step_13 rfl rfl rfl (CI.to ?_)
    exact h
theorem s_Mo_step_19 {x1 : Int} {x2 : Int} {x3 : Int}  (h : Sg g M_Mo_step Q 82 [vR 708, vI x1, vI x2, vI x3] [vI 2, vR 708] D) : Sg g M_Mo_step Q 19 [vR 708, vI x1, vI x2, vI x3] [vR 708] D := by
  unfold Sg
  refine q_iconst d_Mo_step_19 (by decide) ?_
  refine q_goto (tgt := 82) d_Mo_step_20 (by decide) ?_
  exact h
theorem s_Mo_step_16 {x1 : Int} {x2 : Int} {x3 : Int} {y0 : Int}  (h : ((¬ y0 = 0 → ((¬ x1 = 0 → (((D 708 11) = 0 → Sg g M_Mo_step Q 81 [vR 708, vI x1, vI x2, vI x3] [vR 708] D) ∧ (¬ (D 708 11) = 0 → (R32 ((D 708 26) - 1)) ∧ CI g M_Mo_in [vI x2, vI 0, vI ((D 708 26) - 1)] D (fun v5 D' => Sg g M_Mo_step Q 74 [vR 708, vI x1, vI x2, vI x3] [vI v5, vR 708] D')))) ∧ (x1 = 0 → (((D 708 10) = 0 → Sg g M_Mo_step Q 52 [vR 708, vI x1, vI x2, vI x3] [vR 708] D) ∧ (¬ (D 708 10) = 0 → (R32 ((D 708 20) - 1)) ∧ CI g M_Mo_in [vI x2, vI 0, vI ((D 708 20) - 1)] D (fun v8 D' => Sg g M_Mo_step Q 45 [vR 708, vI x1, vI x2, vI x3] [vI v8, vR 708] D')))))) ∧ (y0 = 0 → Sg g M_Mo_step Q 19 [vR 708, vI x1, vI x2, vI x3] [vR 708] D))) : Sg g M_Mo_step Q 16 [vR 708, vI x1, vI x2, vI x3] [vI y0, vR 708] D := by
  unfold Sg
  refine q_if_ne (tgt := 23) d_Mo_step_16 (by decide) (fun c1 => ?_) (fun c1 => ?_)
  · have h := h.1 (c1)
    refine q_iload_n d_Mo_step_23 rfl ?_
    refine q_if_ne (tgt := 56) d_Mo_step_24 (by decide) (fun c2 => ?_) (fun c2 => ?_)
    · have h := h.1 (c2)
      refine q_aload_n d_Mo_step_56 rfl ?_
      refine p_getI (k := 11) zc_Mo l_Mo_156 fi_Mo_gone d_Mo_step_57 zk_708 ?_
      refine q_if_eq (tgt := 81) d_Mo_step_60 (by decide) (fun c3 => ?_) (fun c3 => ?_)
      · have h := h.1 (c3)
        exact h
      · have h := h.2 (c3)
        obtain ⟨o4, h⟩ := h
        refine q_iload_n d_Mo_step_63 rfl ?_
        refine q_iconst d_Mo_step_64 (by decide) ?_
        refine q_aload_n d_Mo_step_65 rfl ?_
        refine p_getI (k := 26) zc_Mo l_Mo_213 fi_Mo_aheadSteps d_Mo_step_66 zk_708 ?_
        refine q_iconst d_Mo_step_69 (by decide) ?_
        refine q_isub d_Mo_step_70 o4 ?_
        refine p_callS (as := [vI x2, vI 0, vI ((D 708 26) - 1)]) (st := [vR 708]) mc_Mo_in ms_Mo_in l_Mo_149 d_Mo_step_71 rfl rfl rfl (CI.to ?_)
        exact h
    · have h := h.2 (c2)
      refine q_aload_n d_Mo_step_27 rfl ?_
      refine p_getI (k := 10) zc_Mo l_Mo_87 fi_Mo_planned d_Mo_step_28 zk_708 ?_
      refine q_if_eq (tgt := 52) d_Mo_step_31 (by decide) (fun c6 => ?_) (fun c6 => ?_)
      · have h := h.1 (c6)
        exact h
      · have h := h.2 (c6)
        obtain ⟨o7, h⟩ := h
        refine q_iload_n d_Mo_step_34 rfl ?_
        refine q_iconst d_Mo_step_35 (by decide) ?_
        refine q_aload_n d_Mo_step_36 rfl ?_
        refine p_getI (k := 20) zc_Mo l_Mo_184 fi_Mo_planSteps d_Mo_step_37 zk_708 ?_
        refine q_iconst d_Mo_step_40 (by decide) ?_
        refine q_isub d_Mo_step_41 o7 ?_
        refine p_callS (as := [vI x2, vI 0, vI ((D 708 20) - 1)]) (st := [vR 708]) mc_Mo_in ms_Mo_in l_Mo_149 d_Mo_step_42 rfl rfl rfl (CI.to ?_)
        exact h
  · have h := h.2 (c1)
    exact h
theorem s_Mo_step_82 {x1 : Int} {x2 : Int} {x3 : Int} {y0 : Int}  (h : (∀ D1, D1 = zw D 708 0 y0 → (((D1 708 0) ≤ 0 → ((¬ x1 = 0 → ((¬ x3 = 0 → ((0 ≤ x2 ∧ x2 < 24)) ∧ Q (some (vI (D1 729 x2))) zE D1) ∧ (x3 = 0 → ((0 ≤ x2 ∧ x2 < 24)) ∧ Q (some (vI (D1 728 x2))) zE D1))) ∧ (x1 = 0 → ((¬ x3 = 0 → ((0 ≤ x2 ∧ x2 < 24)) ∧ Q (some (vI (D1 724 x2))) zE D1) ∧ (x3 = 0 → ((0 ≤ x2 ∧ x2 < 24)) ∧ Q (some (vI (D1 723 x2))) zE D1))))) ∧ (¬ (D1 708 0) ≤ 0 → Q (some (vI 0)) zE D1)))) : Sg g M_Mo_step Q 82 [vR 708, vI x1, vI x2, vI x3] [vI y0, vR 708] D := by
  unfold Sg
  refine p_putI (k := 0) zc_Mo l_Mo_91 fp_Mo_thrown (Or.inl rfl) d_Mo_step_82 zk_708 (fun D1 e2 => ?_)
  have h := h D1 e2
  refine q_aload_n d_Mo_step_85 rfl ?_
  refine p_getI (k := 0) zc_Mo l_Mo_91 fi_Mo_thrown d_Mo_step_86 zk_708 ?_
  refine q_if_le (tgt := 94) d_Mo_step_89 (by decide) (fun c3 => ?_) (fun c3 => ?_)
  · have h := h.1 (c3)
    refine q_iload_n d_Mo_step_94 rfl ?_
    refine q_if_ne (tgt := 118) d_Mo_step_95 (by decide) (fun c4 => ?_) (fun c4 => ?_)
    · have h := h.1 (c4)
      refine q_iload_n d_Mo_step_118 rfl ?_
      refine q_if_ne (tgt := 131) d_Mo_step_119 (by decide) (fun c5 => ?_) (fun c5 => ?_)
      · have h := h.1 (c5)
        obtain ⟨o6, h⟩ := h
        refine q_aload_n d_Mo_step_131 rfl ?_
        refine p_getR (k := 28) (b := 729) zc_Mo l_Mo_72 fr_Mo_aheadEnds d_Mo_step_132 zk_708 rfl ?_
        refine q_iload_n d_Mo_step_135 rfl ?_
        refine p_iald d_Mo_step_136 zk_729 o6 ?_
        exact q_iret d_Mo_step_137 (Or.inl rfl) ⟨Nat.le_refl _, Nat.le_refl _⟩ h
      · have h := h.2 (c5)
        obtain ⟨o7, h⟩ := h
        refine q_aload_n d_Mo_step_122 rfl ?_
        refine p_getR (k := 27) (b := 728) zc_Mo l_Mo_69 fr_Mo_aheadBegins d_Mo_step_123 zk_708 rfl ?_
        refine q_iload_n d_Mo_step_126 rfl ?_
        refine p_iald d_Mo_step_127 zk_728 o7 ?_
        refine q_goto (tgt := 137) d_Mo_step_128 (by decide) ?_
        exact q_iret d_Mo_step_137 (Or.inl rfl) ⟨Nat.le_refl _, Nat.le_refl _⟩ h
    · have h := h.2 (c4)
      refine q_iload_n d_Mo_step_98 rfl ?_
      refine q_if_ne (tgt := 111) d_Mo_step_99 (by decide) (fun c8 => ?_) (fun c8 => ?_)
      · have h := h.1 (c8)
        obtain ⟨o9, h⟩ := h
        refine q_aload_n d_Mo_step_111 rfl ?_
        refine p_getR (k := 22) (b := 724) zc_Mo l_Mo_57 fr_Mo_planEnds d_Mo_step_112 zk_708 rfl ?_
        refine q_iload_n d_Mo_step_115 rfl ?_
        refine p_iald d_Mo_step_116 zk_724 o9 ?_
        exact q_iret d_Mo_step_117 (Or.inl rfl) ⟨Nat.le_refl _, Nat.le_refl _⟩ h
      · have h := h.2 (c8)
        obtain ⟨o10, h⟩ := h
        refine q_aload_n d_Mo_step_102 rfl ?_
        refine p_getR (k := 21) (b := 723) zc_Mo l_Mo_54 fr_Mo_planBegins d_Mo_step_103 zk_708 rfl ?_
        refine q_iload_n d_Mo_step_106 rfl ?_
        refine p_iald d_Mo_step_107 zk_723 o10 ?_
        refine q_goto (tgt := 117) d_Mo_step_108 (by decide) ?_
        exact q_iret d_Mo_step_117 (Or.inl rfl) ⟨Nat.le_refl _, Nat.le_refl _⟩ h
  · have h := h.2 (c3)
    refine q_iconst d_Mo_step_92 (by decide) ?_
    exact q_iret d_Mo_step_93 (Or.inl rfl) ⟨Nat.le_refl _, Nat.le_refl _⟩ h
theorem s_Mo_step_81 {x1 : Int} {x2 : Int} {x3 : Int}  (h : Sg g M_Mo_step Q 82 [vR 708, vI x1, vI x2, vI x3] [vI 1, vR 708] D) : Sg g M_Mo_step Q 81 [vR 708, vI x1, vI x2, vI x3] [vR 708] D := by
  unfold Sg
  refine q_iconst d_Mo_step_81 (by decide) ?_
  exact h
theorem s_Mo_step_74 {x1 : Int} {x2 : Int} {x3 : Int} {y0 : Int}  (h : ((y0 = 0 → Sg g M_Mo_step Q 81 [vR 708, vI x1, vI x2, vI x3] [vR 708] D) ∧ (¬ y0 = 0 → Sg g M_Mo_step Q 82 [vR 708, vI x1, vI x2, vI x3] [vI 0, vR 708] D))) : Sg g M_Mo_step Q 74 [vR 708, vI x1, vI x2, vI x3] [vI y0, vR 708] D := by
  unfold Sg
  refine q_if_eq (tgt := 81) d_Mo_step_74 (by decide) (fun c1 => ?_) (fun c1 => ?_)
  · have h := h.1 (c1)
    exact h
  · have h := h.2 (c1)
    refine q_iconst d_Mo_step_77 (by decide) ?_
    refine q_goto (tgt := 82) d_Mo_step_78 (by decide) ?_
    exact h
theorem s_Mo_step_52 {x1 : Int} {x2 : Int} {x3 : Int}  (h : Sg g M_Mo_step Q 82 [vR 708, vI x1, vI x2, vI x3] [vI 1, vR 708] D) : Sg g M_Mo_step Q 52 [vR 708, vI x1, vI x2, vI x3] [vR 708] D := by
  unfold Sg
  refine q_iconst d_Mo_step_52 (by decide) ?_
  refine q_goto (tgt := 82) d_Mo_step_53 (by decide) ?_
  exact h
theorem s_Mo_step_45 {x1 : Int} {x2 : Int} {x3 : Int} {y0 : Int}  (h : ((y0 = 0 → Sg g M_Mo_step Q 52 [vR 708, vI x1, vI x2, vI x3] [vR 708] D) ∧ (¬ y0 = 0 → Sg g M_Mo_step Q 82 [vR 708, vI x1, vI x2, vI x3] [vI 0, vR 708] D))) : Sg g M_Mo_step Q 45 [vR 708, vI x1, vI x2, vI x3] [vI y0, vR 708] D := by
  unfold Sg
  refine q_if_eq (tgt := 52) d_Mo_step_45 (by decide) (fun c1 => ?_) (fun c1 => ?_)
  · have h := h.1 (c1)
    exact h
  · have h := h.2 (c1)
    refine q_iconst d_Mo_step_48 (by decide) ?_
    refine q_goto (tgt := 82) d_Mo_step_49 (by decide) ?_
    exact h
theorem s_Mo_fraction_0 {x1 : Int} {x2 : Int}  (h : (R32 ((D 708 3) - 1)) ∧ CI g M_Mo_in [vI x2, vI 0, vI ((D 708 3) - 1)] D (fun v2 D' => Sg g M_Mo_fraction Q 11 [vR 708, vI x1, vI x2, vU] [vI v2] D')) : Sg g M_Mo_fraction Q 0 [vR 708, vI x1, vI x2, vU] [] D := by
  unfold Sg
  obtain ⟨o1, h⟩ := h
  refine q_iload_n d_Mo_fraction_0 rfl ?_
  refine q_iconst d_Mo_fraction_1 (by decide) ?_
  refine q_aload_n d_Mo_fraction_2 rfl ?_
  refine p_getI (k := 3) zc_Mo l_Mo_153 fi_Mo_jobs d_Mo_fraction_3 zk_708 ?_
  refine q_iconst d_Mo_fraction_6 (by decide) ?_
  refine q_isub d_Mo_fraction_7 o1 ?_
  refine p_callS (as := [vI x2, vI 0, vI ((D 708 3) - 1)]) (st := []) mc_Mo_in ms_Mo_in l_Mo_149 d_Mo_fraction_8 rfl rfl rfl (CI.to ?_)
  exact h
theorem s_Mo_fraction_11 {x1 : Int} {x2 : Int} {z3 : VV} {y0 : Int}  (h : (((x1 = 0 → (((D 708 10) = 0 → Q (some (vI (-1))) zE D) ∧ (¬ (D 708 10) = 0 → (R32 ((D 708 20) - 1)) ∧ CI g M_Mo_in [vI x2, vI 0, vI ((D 708 20) - 1)] D (fun v5 D' => Sg g M_Mo_fraction Q 86 [vR 708, vI x1, vI x2, vI y0] [vI v5] D')))) ∧ (x1 = 1 → (((D 708 11) = 0 → Q (some (vI (-1))) zE D) ∧ (¬ (D 708 11) = 0 → (R32 ((D 708 26) - 1)) ∧ CI g M_Mo_in [vI x2, vI 0, vI ((D 708 26) - 1)] D (fun v9 D' => Sg g M_Mo_fraction Q 115 [vR 708, vI x1, vI x2, vI y0] [vI v9] D')))) ∧ (x1 = 2 → (((D 708 10) = 0 → Q (some (vI (-1))) zE D) ∧ (¬ (D 708 10) = 0 → ((y0 = 0 → Q (some (vI (-1))) zE D) ∧ (¬ y0 = 0 → (R32 (48 + x2)) ∧ Q (some (vI (48 + x2))) zE D))))) ∧ (x1 = 3 → (((D 708 11) = 0 → Q (some (vI (-1))) zE D) ∧ (¬ (D 708 11) = 0 → ((y0 = 0 → Q (some (vI (-1))) zE D) ∧ (¬ y0 = 0 → (R32 (60 + x2)) ∧ Q (some (vI (60 + x2))) zE D))))) ∧ (x1 = 4 → (((D 708 10) = 0 → Q (some (vI (-1))) zE D) ∧ (¬ (D 708 10) = 0 → ((y0 = 0 → Q (some (vI (-1))) zE D) ∧ (¬ y0 = 0 → (R32 (72 + x2)) ∧ Q (some (vI (72 + x2))) zE D))))) ∧ (x1 = 5 → (((D 708 12) = 0 → Q (some (vI (-1))) zE D) ∧ (¬ (D 708 12) = 0 → ((y0 = 0 → Q (some (vI (-1))) zE D) ∧ (¬ y0 = 0 → (R32 (84 + x2)) ∧ Q (some (vI (84 + x2))) zE D))))) ∧ (x1 = 6 → (((D 708 12) = 0 → Q (some (vI (-1))) zE D) ∧ (¬ (D 708 12) = 0 → ((y0 = 0 → Q (some (vI (-1))) zE D) ∧ (¬ y0 = 0 → (R32 (96 + x2)) ∧ Q (some (vI (96 + x2))) zE D))))) ∧ (x1 = 7 → (((D 708 10) = 0 → Q (some (vI (-1))) zE D) ∧ (¬ (D 708 10) = 0 → ((¬ x2 = 0 → Q (some (vI (-1))) zE D) ∧ (x2 = 0 → Q (some (vI 108)) zE D))))) ∧ (x1 = 8 → (((D 708 11) = 0 → Q (some (vI (-1))) zE D) ∧ (¬ (D 708 11) = 0 → ((¬ x2 = 0 → Q (some (vI (-1))) zE D) ∧ (x2 = 0 → Q (some (vI 109)) zE D))))) ∧ (x1 = 9 → (((D 708 12) = 0 → Q (some (vI (-1))) zE D) ∧ (¬ (D 708 12) = 0 → ((¬ x2 = 0 → Q (some (vI (-1))) zE D) ∧ (x2 = 0 → Q (some (vI 110)) zE D)))))) ∧ ((x1 < 0 ∨ 9 < x1) → Q (some (vI (-1))) zE D))) : Sg g M_Mo_fraction Q 11 [vR 708, vI x1, vI x2, z3] [vI y0] D := by
  unfold Sg
  refine q_mask [false, false, false, true] (L' := [vR 708, vI x1, vI x2, vU]) rfl ?_
  refine q_istore_n d_Mo_fraction_11 (by decide) (L' := [vR 708, vI x1, vI x2, vI y0]) rfl ?_
  refine q_iload_n d_Mo_fraction_12 rfl ?_
  by_cases c1 : 0 ≤ x1 ∧ x1 ≤ 9
  · have h := h.1
    by_cases c2 : x1 = 0
    · have h := h.1 c2
      refine q_tsIn (tgt := 68) (off := 55) d_Mo_fraction_13 (by omega) (by rw [c2]; rfl) (by decide) ?_
      refine q_aload_n d_Mo_fraction_68 rfl ?_
      refine p_getI (k := 10) zc_Mo l_Mo_87 fi_Mo_planned d_Mo_fraction_69 zk_708 ?_
      refine q_if_eq (tgt := 95) d_Mo_fraction_72 (by decide) (fun c3 => ?_) (fun c3 => ?_)
      · have h := h.1 (c3)
        refine q_iconst d_Mo_fraction_95 (by decide) ?_
        exact q_iret d_Mo_fraction_96 (Or.inl rfl) ⟨Nat.le_refl _, Nat.le_refl _⟩ h
      · have h := h.2 (c3)
        obtain ⟨o4, h⟩ := h
        refine q_iload_n d_Mo_fraction_75 rfl ?_
        refine q_iconst d_Mo_fraction_76 (by decide) ?_
        refine q_aload_n d_Mo_fraction_77 rfl ?_
        refine p_getI (k := 20) zc_Mo l_Mo_184 fi_Mo_planSteps d_Mo_fraction_78 zk_708 ?_
        refine q_iconst d_Mo_fraction_81 (by decide) ?_
        refine q_isub d_Mo_fraction_82 o4 ?_
        refine p_callS (as := [vI x2, vI 0, vI ((D 708 20) - 1)]) (st := []) mc_Mo_in ms_Mo_in l_Mo_149 d_Mo_fraction_83 rfl rfl rfl (CI.to ?_)
        exact h
    by_cases c6 : x1 = 1
    · have h := h.2.1 c6
      refine q_tsIn (tgt := 97) (off := 84) d_Mo_fraction_13 (by omega) (by rw [c6]; rfl) (by decide) ?_
      refine q_aload_n d_Mo_fraction_97 rfl ?_
      refine p_getI (k := 11) zc_Mo l_Mo_156 fi_Mo_gone d_Mo_fraction_98 zk_708 ?_
      refine q_if_eq (tgt := 125) d_Mo_fraction_101 (by decide) (fun c7 => ?_) (fun c7 => ?_)
      · have h := h.1 (c7)
        refine q_iconst d_Mo_fraction_125 (by decide) ?_
        exact q_iret d_Mo_fraction_126 (Or.inl rfl) ⟨Nat.le_refl _, Nat.le_refl _⟩ h
      · have h := h.2 (c7)
        obtain ⟨o8, h⟩ := h
        refine q_iload_n d_Mo_fraction_104 rfl ?_
        refine q_iconst d_Mo_fraction_105 (by decide) ?_
        refine q_aload_n d_Mo_fraction_106 rfl ?_
        refine p_getI (k := 26) zc_Mo l_Mo_213 fi_Mo_aheadSteps d_Mo_fraction_107 zk_708 ?_
        refine q_iconst d_Mo_fraction_110 (by decide) ?_
        refine q_isub d_Mo_fraction_111 o8 ?_
        refine p_callS (as := [vI x2, vI 0, vI ((D 708 26) - 1)]) (st := []) mc_Mo_in ms_Mo_in l_Mo_149 d_Mo_fraction_112 rfl rfl rfl (CI.to ?_)
        exact h
    by_cases c10 : x1 = 2
    · have h := h.2.2.1 c10
      refine q_tsIn (tgt := 127) (off := 114) d_Mo_fraction_13 (by omega) (by rw [c10]; rfl) (by decide) ?_
      refine q_aload_n d_Mo_fraction_127 rfl ?_
      refine p_getI (k := 10) zc_Mo l_Mo_87 fi_Mo_planned d_Mo_fraction_128 zk_708 ?_
      refine q_if_eq (tgt := 145) d_Mo_fraction_131 (by decide) (fun c11 => ?_) (fun c11 => ?_)
      · have h := h.1 (c11)
        refine q_iconst d_Mo_fraction_145 (by decide) ?_
        exact q_iret d_Mo_fraction_146 (Or.inl rfl) ⟨Nat.le_refl _, Nat.le_refl _⟩ h
      · have h := h.2 (c11)
        refine q_iload_n d_Mo_fraction_134 rfl ?_
        refine q_if_eq (tgt := 145) d_Mo_fraction_135 (by decide) (fun c12 => ?_) (fun c12 => ?_)
        · have h := h.1 (c12)
          refine q_iconst d_Mo_fraction_145 (by decide) ?_
          exact q_iret d_Mo_fraction_146 (Or.inl rfl) ⟨Nat.le_refl _, Nat.le_refl _⟩ h
        · have h := h.2 (c12)
          obtain ⟨o13, h⟩ := h
          refine q_bipush d_Mo_fraction_138 kb_48 ?_
          refine q_iload_n d_Mo_fraction_140 rfl ?_
          refine q_iadd d_Mo_fraction_141 o13 ?_
          refine q_goto (tgt := 146) d_Mo_fraction_142 (by decide) ?_
          exact q_iret d_Mo_fraction_146 (Or.inl rfl) ⟨Nat.le_refl _, Nat.le_refl _⟩ h
    by_cases c14 : x1 = 3
    · have h := h.2.2.2.1 c14
      refine q_tsIn (tgt := 147) (off := 134) d_Mo_fraction_13 (by omega) (by rw [c14]; rfl) (by decide) ?_
      refine q_aload_n d_Mo_fraction_147 rfl ?_
      refine p_getI (k := 11) zc_Mo l_Mo_156 fi_Mo_gone d_Mo_fraction_148 zk_708 ?_
      refine q_if_eq (tgt := 165) d_Mo_fraction_151 (by decide) (fun c15 => ?_) (fun c15 => ?_)
      · have h := h.1 (c15)
        refine q_iconst d_Mo_fraction_165 (by decide) ?_
        exact q_iret d_Mo_fraction_166 (Or.inl rfl) ⟨Nat.le_refl _, Nat.le_refl _⟩ h
      · have h := h.2 (c15)
        refine q_iload_n d_Mo_fraction_154 rfl ?_
        refine q_if_eq (tgt := 165) d_Mo_fraction_155 (by decide) (fun c16 => ?_) (fun c16 => ?_)
        · have h := h.1 (c16)
          refine q_iconst d_Mo_fraction_165 (by decide) ?_
          exact q_iret d_Mo_fraction_166 (Or.inl rfl) ⟨Nat.le_refl _, Nat.le_refl _⟩ h
        · have h := h.2 (c16)
          obtain ⟨o17, h⟩ := h
          refine q_bipush d_Mo_fraction_158 kb_60 ?_
          refine q_iload_n d_Mo_fraction_160 rfl ?_
          refine q_iadd d_Mo_fraction_161 o17 ?_
          refine q_goto (tgt := 166) d_Mo_fraction_162 (by decide) ?_
          exact q_iret d_Mo_fraction_166 (Or.inl rfl) ⟨Nat.le_refl _, Nat.le_refl _⟩ h
    by_cases c18 : x1 = 4
    · have h := h.2.2.2.2.1 c18
      refine q_tsIn (tgt := 167) (off := 154) d_Mo_fraction_13 (by omega) (by rw [c18]; rfl) (by decide) ?_
      refine q_aload_n d_Mo_fraction_167 rfl ?_
      refine p_getI (k := 10) zc_Mo l_Mo_87 fi_Mo_planned d_Mo_fraction_168 zk_708 ?_
      refine q_if_eq (tgt := 185) d_Mo_fraction_171 (by decide) (fun c19 => ?_) (fun c19 => ?_)
      · have h := h.1 (c19)
        refine q_iconst d_Mo_fraction_185 (by decide) ?_
        exact q_iret d_Mo_fraction_186 (Or.inl rfl) ⟨Nat.le_refl _, Nat.le_refl _⟩ h
      · have h := h.2 (c19)
        refine q_iload_n d_Mo_fraction_174 rfl ?_
        refine q_if_eq (tgt := 185) d_Mo_fraction_175 (by decide) (fun c20 => ?_) (fun c20 => ?_)
        · have h := h.1 (c20)
          refine q_iconst d_Mo_fraction_185 (by decide) ?_
          exact q_iret d_Mo_fraction_186 (Or.inl rfl) ⟨Nat.le_refl _, Nat.le_refl _⟩ h
        · have h := h.2 (c20)
          obtain ⟨o21, h⟩ := h
          refine q_bipush d_Mo_fraction_178 kb_72 ?_
          refine q_iload_n d_Mo_fraction_180 rfl ?_
          refine q_iadd d_Mo_fraction_181 o21 ?_
          refine q_goto (tgt := 186) d_Mo_fraction_182 (by decide) ?_
          exact q_iret d_Mo_fraction_186 (Or.inl rfl) ⟨Nat.le_refl _, Nat.le_refl _⟩ h
    by_cases c22 : x1 = 5
    · have h := h.2.2.2.2.2.1 c22
      refine q_tsIn (tgt := 187) (off := 174) d_Mo_fraction_13 (by omega) (by rw [c22]; rfl) (by decide) ?_
      refine q_aload_n d_Mo_fraction_187 rfl ?_
      refine p_getI (k := 12) zc_Mo l_Mo_159 fi_Mo_isSplit d_Mo_fraction_188 zk_708 ?_
      refine q_if_eq (tgt := 205) d_Mo_fraction_191 (by decide) (fun c23 => ?_) (fun c23 => ?_)
      · have h := h.1 (c23)
        refine q_iconst d_Mo_fraction_205 (by decide) ?_
        exact q_iret d_Mo_fraction_206 (Or.inl rfl) ⟨Nat.le_refl _, Nat.le_refl _⟩ h
      · have h := h.2 (c23)
        refine q_iload_n d_Mo_fraction_194 rfl ?_
        refine q_if_eq (tgt := 205) d_Mo_fraction_195 (by decide) (fun c24 => ?_) (fun c24 => ?_)
        · have h := h.1 (c24)
          refine q_iconst d_Mo_fraction_205 (by decide) ?_
          exact q_iret d_Mo_fraction_206 (Or.inl rfl) ⟨Nat.le_refl _, Nat.le_refl _⟩ h
        · have h := h.2 (c24)
          obtain ⟨o25, h⟩ := h
          refine q_bipush d_Mo_fraction_198 kb_84 ?_
          refine q_iload_n d_Mo_fraction_200 rfl ?_
          refine q_iadd d_Mo_fraction_201 o25 ?_
          refine q_goto (tgt := 206) d_Mo_fraction_202 (by decide) ?_
          exact q_iret d_Mo_fraction_206 (Or.inl rfl) ⟨Nat.le_refl _, Nat.le_refl _⟩ h
    by_cases c26 : x1 = 6
    · have h := h.2.2.2.2.2.2.1 c26
      refine q_tsIn (tgt := 207) (off := 194) d_Mo_fraction_13 (by omega) (by rw [c26]; rfl) (by decide) ?_
      refine q_aload_n d_Mo_fraction_207 rfl ?_
      refine p_getI (k := 12) zc_Mo l_Mo_159 fi_Mo_isSplit d_Mo_fraction_208 zk_708 ?_
      refine q_if_eq (tgt := 225) d_Mo_fraction_211 (by decide) (fun c27 => ?_) (fun c27 => ?_)
      · have h := h.1 (c27)
        refine q_iconst d_Mo_fraction_225 (by decide) ?_
        exact q_iret d_Mo_fraction_226 (Or.inl rfl) ⟨Nat.le_refl _, Nat.le_refl _⟩ h
      · have h := h.2 (c27)
        refine q_iload_n d_Mo_fraction_214 rfl ?_
        refine q_if_eq (tgt := 225) d_Mo_fraction_215 (by decide) (fun c28 => ?_) (fun c28 => ?_)
        · have h := h.1 (c28)
          refine q_iconst d_Mo_fraction_225 (by decide) ?_
          exact q_iret d_Mo_fraction_226 (Or.inl rfl) ⟨Nat.le_refl _, Nat.le_refl _⟩ h
        · have h := h.2 (c28)
          obtain ⟨o29, h⟩ := h
          refine q_bipush d_Mo_fraction_218 kb_96 ?_
          refine q_iload_n d_Mo_fraction_220 rfl ?_
          refine q_iadd d_Mo_fraction_221 o29 ?_
          refine q_goto (tgt := 226) d_Mo_fraction_222 (by decide) ?_
          exact q_iret d_Mo_fraction_226 (Or.inl rfl) ⟨Nat.le_refl _, Nat.le_refl _⟩ h
    by_cases c30 : x1 = 7
    · have h := h.2.2.2.2.2.2.2.1 c30
      refine q_tsIn (tgt := 227) (off := 214) d_Mo_fraction_13 (by omega) (by rw [c30]; rfl) (by decide) ?_
      refine q_aload_n d_Mo_fraction_227 rfl ?_
      refine p_getI (k := 10) zc_Mo l_Mo_87 fi_Mo_planned d_Mo_fraction_228 zk_708 ?_
      refine q_if_eq (tgt := 243) d_Mo_fraction_231 (by decide) (fun c31 => ?_) (fun c31 => ?_)
      · have h := h.1 (c31)
        refine q_iconst d_Mo_fraction_243 (by decide) ?_
        exact q_iret d_Mo_fraction_244 (Or.inl rfl) ⟨Nat.le_refl _, Nat.le_refl _⟩ h
      · have h := h.2 (c31)
        refine q_iload_n d_Mo_fraction_234 rfl ?_
        refine q_if_ne (tgt := 243) d_Mo_fraction_235 (by decide) (fun c32 => ?_) (fun c32 => ?_)
        · have h := h.1 (c32)
          refine q_iconst d_Mo_fraction_243 (by decide) ?_
          exact q_iret d_Mo_fraction_244 (Or.inl rfl) ⟨Nat.le_refl _, Nat.le_refl _⟩ h
        · have h := h.2 (c32)
          refine q_bipush d_Mo_fraction_238 kb_108 ?_
          refine q_goto (tgt := 244) d_Mo_fraction_240 (by decide) ?_
          exact q_iret d_Mo_fraction_244 (Or.inl rfl) ⟨Nat.le_refl _, Nat.le_refl _⟩ h
    by_cases c33 : x1 = 8
    · have h := h.2.2.2.2.2.2.2.2.1 c33
      refine q_tsIn (tgt := 245) (off := 232) d_Mo_fraction_13 (by omega) (by rw [c33]; rfl) (by decide) ?_
      refine q_aload_n d_Mo_fraction_245 rfl ?_
      refine p_getI (k := 11) zc_Mo l_Mo_156 fi_Mo_gone d_Mo_fraction_246 zk_708 ?_
      refine q_if_eq (tgt := 261) d_Mo_fraction_249 (by decide) (fun c34 => ?_) (fun c34 => ?_)
      · have h := h.1 (c34)
        refine q_iconst d_Mo_fraction_261 (by decide) ?_
        exact q_iret d_Mo_fraction_262 (Or.inl rfl) ⟨Nat.le_refl _, Nat.le_refl _⟩ h
      · have h := h.2 (c34)
        refine q_iload_n d_Mo_fraction_252 rfl ?_
        refine q_if_ne (tgt := 261) d_Mo_fraction_253 (by decide) (fun c35 => ?_) (fun c35 => ?_)
        · have h := h.1 (c35)
          refine q_iconst d_Mo_fraction_261 (by decide) ?_
          exact q_iret d_Mo_fraction_262 (Or.inl rfl) ⟨Nat.le_refl _, Nat.le_refl _⟩ h
        · have h := h.2 (c35)
          refine q_bipush d_Mo_fraction_256 kb_109 ?_
          refine q_goto (tgt := 262) d_Mo_fraction_258 (by decide) ?_
          exact q_iret d_Mo_fraction_262 (Or.inl rfl) ⟨Nat.le_refl _, Nat.le_refl _⟩ h
    by_cases c36 : x1 = 9
    · have h := h.2.2.2.2.2.2.2.2.2 c36
      refine q_tsIn (tgt := 263) (off := 250) d_Mo_fraction_13 (by omega) (by rw [c36]; rfl) (by decide) ?_
      refine q_aload_n d_Mo_fraction_263 rfl ?_
      refine p_getI (k := 12) zc_Mo l_Mo_159 fi_Mo_isSplit d_Mo_fraction_264 zk_708 ?_
      refine q_if_eq (tgt := 279) d_Mo_fraction_267 (by decide) (fun c37 => ?_) (fun c37 => ?_)
      · have h := h.1 (c37)
        refine q_iconst d_Mo_fraction_279 (by decide) ?_
        exact q_iret d_Mo_fraction_280 (Or.inl rfl) ⟨Nat.le_refl _, Nat.le_refl _⟩ h
      · have h := h.2 (c37)
        refine q_iload_n d_Mo_fraction_270 rfl ?_
        refine q_if_ne (tgt := 279) d_Mo_fraction_271 (by decide) (fun c38 => ?_) (fun c38 => ?_)
        · have h := h.1 (c38)
          refine q_iconst d_Mo_fraction_279 (by decide) ?_
          exact q_iret d_Mo_fraction_280 (Or.inl rfl) ⟨Nat.le_refl _, Nat.le_refl _⟩ h
        · have h := h.2 (c38)
          refine q_bipush d_Mo_fraction_274 kb_110 ?_
          refine q_goto (tgt := 280) d_Mo_fraction_276 (by decide) ?_
          exact q_iret d_Mo_fraction_280 (Or.inl rfl) ⟨Nat.le_refl _, Nat.le_refl _⟩ h
    · omega
  · have h := h.2 (by omega)
    refine q_tsOut (tgt := 281) d_Mo_fraction_13 (by omega) (by decide) ?_
    refine q_iconst d_Mo_fraction_281 (by decide) ?_
    exact q_iret d_Mo_fraction_282 (Or.inl rfl) ⟨Nat.le_refl _, Nat.le_refl _⟩ h
theorem s_Mo_fraction_86 {z0 : VV} {z1 : VV} {x2 : Int} {z3 : VV} {y0 : Int}  (h : ((y0 = 0 → Q (some (vI (-1))) zE D) ∧ (¬ y0 = 0 → (R32 (0 + x2)) ∧ Q (some (vI (0 + x2))) zE D))) : Sg g M_Mo_fraction Q 86 [z0, z1, vI x2, z3] [vI y0] D := by
  unfold Sg
  refine q_mask [true, true, false, true] (L' := [vU, vU, vI x2, vU]) rfl ?_
  refine q_if_eq (tgt := 95) d_Mo_fraction_86 (by decide) (fun c1 => ?_) (fun c1 => ?_)
  · have h := h.1 (c1)
    refine q_iconst d_Mo_fraction_95 (by decide) ?_
    exact q_iret d_Mo_fraction_96 (Or.inl rfl) ⟨Nat.le_refl _, Nat.le_refl _⟩ h
  · have h := h.2 (c1)
    obtain ⟨o2, h⟩ := h
    refine q_iconst d_Mo_fraction_89 (by decide) ?_
    refine q_iload_n d_Mo_fraction_90 rfl ?_
    refine q_iadd d_Mo_fraction_91 o2 ?_
    refine q_goto (tgt := 96) d_Mo_fraction_92 (by decide) ?_
    exact q_iret d_Mo_fraction_96 (Or.inl rfl) ⟨Nat.le_refl _, Nat.le_refl _⟩ h
theorem s_Mo_fraction_115 {z0 : VV} {z1 : VV} {x2 : Int} {z3 : VV} {y0 : Int}  (h : ((y0 = 0 → Q (some (vI (-1))) zE D) ∧ (¬ y0 = 0 → (R32 (24 + x2)) ∧ Q (some (vI (24 + x2))) zE D))) : Sg g M_Mo_fraction Q 115 [z0, z1, vI x2, z3] [vI y0] D := by
  unfold Sg
  refine q_mask [true, true, false, true] (L' := [vU, vU, vI x2, vU]) rfl ?_
  refine q_if_eq (tgt := 125) d_Mo_fraction_115 (by decide) (fun c1 => ?_) (fun c1 => ?_)
  · have h := h.1 (c1)
    refine q_iconst d_Mo_fraction_125 (by decide) ?_
    exact q_iret d_Mo_fraction_126 (Or.inl rfl) ⟨Nat.le_refl _, Nat.le_refl _⟩ h
  · have h := h.2 (c1)
    obtain ⟨o2, h⟩ := h
    refine q_bipush d_Mo_fraction_118 kb_24 ?_
    refine q_iload_n d_Mo_fraction_120 rfl ?_
    refine q_iadd d_Mo_fraction_121 o2 ?_
    refine q_goto (tgt := 126) d_Mo_fraction_122 (by decide) ?_
    exact q_iret d_Mo_fraction_126 (Or.inl rfl) ⟨Nat.le_refl _, Nat.le_refl _⟩ h
theorem s_Mo_printNumber_0 {x1 : Int}  (h : CV g M_Mo_copy [vR 708, vI x1, vI 244] D (fun D' => Sg g M_Mo_printNumber Q 8 [vR 708, vI x1, vU, vU, vU, vU, vU] [] D')) : Sg g M_Mo_printNumber Q 0 [vR 708, vI x1, vU, vU, vU, vU, vU] [] D := by
  unfold Sg
  refine q_aload_n d_Mo_printNumber_0 rfl ?_
  refine q_iload_n d_Mo_printNumber_1 rfl ?_
  refine q_sipush d_Mo_printNumber_2 ks_244 ?_
  refine p_callV (as := [vI x1, vI 244]) (st := []) (a := 708) mc_Mo_copy mv_Mo_copy l_Mo_106 zc_Mo rfl d_Mo_printNumber_5 rfl rfl rfl zk_708 (CV.to ?_)
  exact h
theorem s_Mo_printNumber_8 {z1 : VV} {z2 : VV} {z3 : VV} {z4 : VV} {z5 : VV} {z6 : VV}  (h : Sg g M_Mo_printNumber Q 15 [vR 708, vU, vI (D 708 33), vI 1, vU, vU, vU] [] D) : Sg g M_Mo_printNumber Q 8 [vR 708, z1, z2, z3, z4, z5, z6] [] D := by
  unfold Sg
  refine q_mask [false, true, true, true, true, true, true] (L' := [vR 708, vU, vU, vU, vU, vU, vU]) rfl ?_
  refine q_aload_n d_Mo_printNumber_8 rfl ?_
  refine p_getI (k := 33) zc_Mo l_Mo_235 fi_Mo_printedMany d_Mo_printNumber_9 zk_708 ?_
  refine q_istore_n d_Mo_printNumber_12 (by decide) (L' := [vR 708, vU, vI (D 708 33), vU, vU, vU, vU]) rfl ?_
  refine q_iconst d_Mo_printNumber_13 (by decide) ?_
  refine q_istore_n d_Mo_printNumber_14 (by decide) (L' := [vR 708, vU, vI (D 708 33), vI 1, vU, vU, vU]) rfl ?_
  exact h
theorem s_Mo_printNumber_15 {z1 : VV} {x2 : Int} {x3 : Int} {z4 : VV} {z5 : VV} {z6 : VV}  (h : ((x3 = 0 → (R32 ((D 708 33) - 1)) ∧ Sg g M_Mo_printNumber Q 81 [vR 708, vU, vI x2, vI x3, vI x2, vI ((D 708 33) - 1), vU] [] D) ∧ (¬ x3 = 0 → CI g M_Mo_divideBy [vR 708, vI 244, vI 10] D (fun v3 D' => Sg g M_Mo_printNumber Q 38 [vR 708, vU, vI x2, vI x3, vU, vU, vU] [vI v3, vI 48, vI (D 708 33), vR 733] D')))) : Sg g M_Mo_printNumber Q 15 [vR 708, z1, vI x2, vI x3, z4, z5, z6] [] D := by
  unfold Sg
  refine q_mask [false, true, false, false, true, true, true] (L' := [vR 708, vU, vI x2, vI x3, vU, vU, vU]) rfl ?_
  refine q_iload_n d_Mo_printNumber_15 rfl ?_
  refine q_if_eq (tgt := 70) d_Mo_printNumber_16 (by decide) (fun c1 => ?_) (fun c1 => ?_)
  · have h := h.1 (c1)
    obtain ⟨o2, h⟩ := h
    refine q_iload_n d_Mo_printNumber_70 rfl ?_
    refine q_istore d_Mo_printNumber_71 (by decide) (L' := [vR 708, vU, vI x2, vI x3, vI x2, vU, vU]) rfl ?_
    refine q_aload_n d_Mo_printNumber_73 rfl ?_
    refine p_getI (k := 33) zc_Mo l_Mo_235 fi_Mo_printedMany d_Mo_printNumber_74 zk_708 ?_
    refine q_iconst d_Mo_printNumber_77 (by decide) ?_
    refine q_isub d_Mo_printNumber_78 o2 ?_
    refine q_istore d_Mo_printNumber_79 (by decide) (L' := [vR 708, vU, vI x2, vI x3, vI x2, vI ((D 708 33) - 1), vU]) rfl ?_
    exact h
  · have h := h.2 (c1)
    refine q_aload_n d_Mo_printNumber_19 rfl ?_
    refine p_getR (k := 32) (b := 733) zc_Mo l_Mo_84 fr_Mo_printed d_Mo_printNumber_20 zk_708 rfl ?_
    refine q_aload_n d_Mo_printNumber_23 rfl ?_
    refine p_getI (k := 33) zc_Mo l_Mo_235 fi_Mo_printedMany d_Mo_printNumber_24 zk_708 ?_
    refine q_bipush d_Mo_printNumber_27 kb_48 ?_
    refine q_aload_n d_Mo_printNumber_29 rfl ?_
    refine q_sipush d_Mo_printNumber_30 ks_244 ?_
    refine q_bipush d_Mo_printNumber_33 kb_10 ?_
    refine p_callV (as := [vI 244, vI 10]) (st := [vI 48, vI (D 708 33), vR 733]) (a := 708) mc_Mo_divideBy mv_Mo_divideBy l_Mo_114 zc_Mo rfl d_Mo_printNumber_35 rfl rfl rfl zk_708 (CI.to ?_)
    exact h
theorem s_Mo_printNumber_81 {z1 : VV} {z2 : VV} {z3 : VV} {x4 : Int} {x5 : Int} {z6 : VV}  (h : ((x5 ≤ x4 → Q none zE D) ∧ (¬ x5 ≤ x4 → ((0 ≤ x4 ∧ x4 < 2000) ∧ (0 ≤ x5 ∧ x5 < 2000) ∧ (0 ≤ x4 ∧ x4 < 2000)) ∧ (∀ D5, D5 = zw D 733 x4 (D 733 x5) → ((0 ≤ x5 ∧ x5 < 2000)) ∧ (∀ D8, D8 = zw D5 733 x5 (D 733 x4) → (R32 (x4 + 1) ∧ R32 (x5 + (-1))) ∧ Sg g M_Mo_printNumber Q 81 [vR 708, vU, vU, vU, vI (x4 + 1), vI (x5 + (-1)), vI (D 733 x4)] [] D8))))) : Sg g M_Mo_printNumber Q 81 [vR 708, z1, z2, z3, vI x4, vI x5, z6] [] D := by
  unfold Sg
  refine q_mask [false, true, true, true, false, false, true] (L' := [vR 708, vU, vU, vU, vI x4, vI x5, vU]) rfl ?_
  refine q_iload d_Mo_printNumber_81 rfl ?_
  refine q_iload d_Mo_printNumber_83 rfl ?_
  refine q_icmp_ge (tgt := 129) d_Mo_printNumber_85 (by decide) (fun c1 => ?_) (fun c1 => ?_)
  · have h := h.1 (c1)
    exact q_vret d_Mo_printNumber_129 rfl ⟨Nat.le_refl _, Nat.le_refl _⟩ h
  · have h := h.2 (c1)
    obtain ⟨⟨o2, o3, o4⟩, h⟩ := h
    refine q_aload_n d_Mo_printNumber_88 rfl ?_
    refine p_getR (k := 32) (b := 733) zc_Mo l_Mo_84 fr_Mo_printed d_Mo_printNumber_89 zk_708 rfl ?_
    refine q_iload d_Mo_printNumber_92 rfl ?_
    refine p_iald d_Mo_printNumber_94 zk_733 o2 ?_
    refine q_istore d_Mo_printNumber_95 (by decide) (L' := [vR 708, vU, vU, vU, vI x4, vI x5, vI (D 733 x4)]) rfl ?_
    refine q_aload_n d_Mo_printNumber_97 rfl ?_
    refine p_getR (k := 32) (b := 733) zc_Mo l_Mo_84 fr_Mo_printed d_Mo_printNumber_98 zk_708 rfl ?_
    refine q_iload d_Mo_printNumber_101 rfl ?_
    refine q_aload_n d_Mo_printNumber_103 rfl ?_
    refine p_getR (k := 32) (b := 733) zc_Mo l_Mo_84 fr_Mo_printed d_Mo_printNumber_104 zk_708 rfl ?_
    refine q_iload d_Mo_printNumber_107 rfl ?_
    refine p_iald d_Mo_printNumber_109 zk_733 o3 ?_
    refine p_iast d_Mo_printNumber_110 zk_733 o4 (fun D5 e6 => ?_)
    have h := h D5 e6
    obtain ⟨o7, h⟩ := h
    refine q_aload_n d_Mo_printNumber_111 rfl ?_
    refine p_getR (k := 32) (b := 733) zc_Mo l_Mo_84 fr_Mo_printed d_Mo_printNumber_112 zk_708 rfl ?_
    refine q_iload d_Mo_printNumber_115 rfl ?_
    refine q_iload d_Mo_printNumber_117 rfl ?_
    refine p_iast d_Mo_printNumber_119 zk_733 o7 (fun D8 e9 => ?_)
    have h := h D8 e9
    obtain ⟨⟨o10, o11⟩, h⟩ := h
    refine q_iinc d_Mo_printNumber_120 rfl (by decide) o10 (L' := [vR 708, vU, vU, vU, vI (x4 + 1), vI x5, vI (D 733 x4)]) rfl ?_
    refine q_iinc d_Mo_printNumber_123 rfl (by decide) o11 (L' := [vR 708, vU, vU, vU, vI (x4 + 1), vI (x5 + (-1)), vI (D 733 x4)]) rfl ?_
    refine q_goto (tgt := 81) d_Mo_printNumber_126 (by decide) ?_
    exact h
theorem s_Mo_printNumber_38 {z1 : VV} {x2 : Int} {z3 : VV} {z4 : VV} {z5 : VV} {z6 : VV} {y0 : Int} {y1 : Int} {y2 : Int}  (h : (R32 (y1 + y0) ∧ (0 ≤ y2 ∧ y2 < 2000)) ∧ (∀ D3, D3 = zw D 733 y2 (y1 + y0) → (R32 ((D3 708 33) + 1)) ∧ (∀ D6, D6 = zw D3 708 33 ((D3 708 33) + 1) → (((D6 710 244) ≤ 0 → Sg g M_Mo_printNumber Q 66 [vR 708, vU, vI x2, vU, vU, vU, vU] [vI 0] D6) ∧ (¬ (D6 710 244) ≤ 0 → Sg g M_Mo_printNumber Q 66 [vR 708, vU, vI x2, vU, vU, vU, vU] [vI 1] D6))))) : Sg g M_Mo_printNumber Q 38 [vR 708, z1, vI x2, z3, z4, z5, z6] [vI y0, vI y1, vI y2, vR 733] D := by
  unfold Sg
  refine q_mask [false, true, false, true, true, true, true] (L' := [vR 708, vU, vI x2, vU, vU, vU, vU]) rfl ?_
  obtain ⟨⟨o1, o2⟩, h⟩ := h
  refine q_iadd d_Mo_printNumber_38 o1 ?_
  refine p_iast d_Mo_printNumber_39 zk_733 o2 (fun D3 e4 => ?_)
  have h := h D3 e4
  obtain ⟨o5, h⟩ := h
  refine q_aload_n d_Mo_printNumber_40 rfl ?_
  refine q_dup d_Mo_printNumber_41 rfl ?_
  refine p_getI (k := 33) zc_Mo l_Mo_235 fi_Mo_printedMany d_Mo_printNumber_42 zk_708 ?_
  refine q_iconst d_Mo_printNumber_45 (by decide) ?_
  refine q_iadd d_Mo_printNumber_46 o5 ?_
  refine p_putI (k := 33) zc_Mo l_Mo_235 fp_Mo_printedMany (Or.inl rfl) d_Mo_printNumber_47 zk_708 (fun D6 e7 => ?_)
  have h := h D6 e7
  refine q_aload_n d_Mo_printNumber_50 rfl ?_
  refine p_getR (k := 2) (b := 710) zc_Mo l_Mo_13 fr_Mo_sizes d_Mo_printNumber_51 zk_708 rfl ?_
  refine q_sipush d_Mo_printNumber_54 ks_244 ?_
  refine p_iald d_Mo_printNumber_57 zk_710 (by decide) ?_
  refine q_if_le (tgt := 65) d_Mo_printNumber_58 (by decide) (fun c8 => ?_) (fun c8 => ?_)
  · have h := h.1 (c8)
    refine q_iconst d_Mo_printNumber_65 (by decide) ?_
    exact h
  · have h := h.2 (c8)
    refine q_iconst d_Mo_printNumber_61 (by decide) ?_
    refine q_goto (tgt := 66) d_Mo_printNumber_62 (by decide) ?_
    exact h
theorem s_Mo_printNumber_66 {z1 : VV} {x2 : Int} {z3 : VV} {z4 : VV} {z5 : VV} {z6 : VV} {y0 : Int}  (h : Sg g M_Mo_printNumber Q 15 [vR 708, vU, vI x2, vI y0, vU, vU, vU] [] D) : Sg g M_Mo_printNumber Q 66 [vR 708, z1, vI x2, z3, z4, z5, z6] [vI y0] D := by
  unfold Sg
  refine q_mask [false, true, false, true, true, true, true] (L' := [vR 708, vU, vI x2, vU, vU, vU, vU]) rfl ?_
  refine q_istore_n d_Mo_printNumber_66 (by decide) (L' := [vR 708, vU, vI x2, vI y0, vU, vU, vU]) rfl ?_
  refine q_goto (tgt := 15) d_Mo_printNumber_67 (by decide) ?_
  exact h
theorem s_Mo_print_0 {x1 : Int} {x2 : Int}  (h : (∀ D1, D1 = zw D 708 0 0 → CI g M_Mo_fraction [vR 708, vI x1, vI x2] D1 (fun v3 D' => Sg g M_Mo_print Q 11 [vR 708, vI x1, vI x2, vU] [vI v3] D'))) : Sg g M_Mo_print Q 0 [vR 708, vI x1, vI x2, vU] [] D := by
  unfold Sg
  refine q_aload_n d_Mo_print_0 rfl ?_
  refine q_iconst d_Mo_print_1 (by decide) ?_
  refine p_putI (k := 0) zc_Mo l_Mo_91 fp_Mo_thrown (Or.inl rfl) d_Mo_print_2 zk_708 (fun D1 e2 => ?_)
  have h := h D1 e2
  refine q_aload_n d_Mo_print_5 rfl ?_
  refine q_iload_n d_Mo_print_6 rfl ?_
  refine q_iload_n d_Mo_print_7 rfl ?_
  refine p_callV (as := [vI x1, vI x2]) (st := []) (a := 708) mc_Mo_fraction mv_Mo_fraction l_Mo_238 zc_Mo rfl d_Mo_print_8 rfl rfl rfl zk_708 (CI.to ?_)
  exact h
theorem s_Mo_print_11 {z1 : VV} {z2 : VV} {z3 : VV} {y0 : Int}  (h : ((0 ≤ y0 → (∀ D2, D2 = zw D 708 33 0 → (R32 (2 * y0)) ∧ CV g M_Mo_printNumber [vR 708, vI (2 * y0)] D2 (fun D' => Sg g M_Mo_print Q 30 [vR 708, vU, vU, vI y0] [] D'))) ∧ (¬ 0 ≤ y0 → Q (some (vI (-1))) zE D))) : Sg g M_Mo_print Q 11 [vR 708, z1, z2, z3] [vI y0] D := by
  unfold Sg
  refine q_mask [false, true, true, true] (L' := [vR 708, vU, vU, vU]) rfl ?_
  refine q_istore_n d_Mo_print_11 (by decide) (L' := [vR 708, vU, vU, vI y0]) rfl ?_
  refine q_iload_n d_Mo_print_12 rfl ?_
  refine q_if_ge (tgt := 18) d_Mo_print_13 (by decide) (fun c1 => ?_) (fun c1 => ?_)
  · have h := h.1 (c1)
    refine q_aload_n d_Mo_print_18 rfl ?_
    refine q_iconst d_Mo_print_19 (by decide) ?_
    refine p_putI (k := 33) zc_Mo l_Mo_235 fp_Mo_printedMany (Or.inl rfl) d_Mo_print_20 zk_708 (fun D2 e3 => ?_)
    have h := h D2 e3
    obtain ⟨o4, h⟩ := h
    refine q_aload_n d_Mo_print_23 rfl ?_
    refine q_iconst d_Mo_print_24 (by decide) ?_
    refine q_iload_n d_Mo_print_25 rfl ?_
    refine q_imul d_Mo_print_26 o4 ?_
    refine p_callV (as := [vI (2 * y0)]) (st := []) (a := 708) mc_Mo_printNumber mv_Mo_printNumber l_Mo_241 zc_Mo rfl d_Mo_print_27 rfl rfl rfl zk_708 (CV.to ?_)
    exact h
  · have h := h.2 (c1)
    refine q_iconst d_Mo_print_16 (by decide) ?_
    exact q_iret d_Mo_print_17 (Or.inl rfl) ⟨Nat.le_refl _, Nat.le_refl _⟩ h
theorem s_Mo_print_30 {z1 : VV} {z2 : VV} {x3 : Int}  (h : (R32 (2 * x3) ∧ R32 ((2 * x3) + 1) ∧ (0 ≤ (2 * x3) + 1 ∧ (2 * x3) + 1 < 260)) ∧ ((¬ (D 710 ((2 * x3) + 1)) = 1 → Sg g M_Mo_print Q 61 [vR 708, vU, vU, vI x3] [] D) ∧ ((D 710 ((2 * x3) + 1)) = 1 → (R32 (2 * x3) ∧ R32 ((2 * x3) + 1) ∧ R32 (100 * ((2 * x3) + 1)) ∧ (0 ≤ 100 * ((2 * x3) + 1) ∧ 100 * ((2 * x3) + 1) < 26000)) ∧ (((D 709 (100 * ((2 * x3) + 1))) = 1 → Sg g M_Mo_print Q 91 [vR 708, vU, vU, vI x3] [] D) ∧ (¬ (D 709 (100 * ((2 * x3) + 1))) = 1 → Sg g M_Mo_print Q 61 [vR 708, vU, vU, vI x3] [] D))))) : Sg g M_Mo_print Q 30 [vR 708, z1, z2, vI x3] [] D := by
  unfold Sg
  refine q_mask [false, true, true, false] (L' := [vR 708, vU, vU, vI x3]) rfl ?_
  obtain ⟨⟨o1, o2, o3⟩, h⟩ := h
  refine q_aload_n d_Mo_print_30 rfl ?_
  refine p_getR (k := 2) (b := 710) zc_Mo l_Mo_13 fr_Mo_sizes d_Mo_print_31 zk_708 rfl ?_
  refine q_iconst d_Mo_print_34 (by decide) ?_
  refine q_iload_n d_Mo_print_35 rfl ?_
  refine q_imul d_Mo_print_36 o1 ?_
  refine q_iconst d_Mo_print_37 (by decide) ?_
  refine q_iadd d_Mo_print_38 o2 ?_
  refine p_iald d_Mo_print_39 zk_710 o3 ?_
  refine q_iconst d_Mo_print_40 (by decide) ?_
  refine q_icmp_ne (tgt := 61) d_Mo_print_41 (by decide) (fun c4 => ?_) (fun c4 => ?_)
  · have h := h.1 (c4)
    exact h
  · have h := h.2 (c4)
    obtain ⟨⟨o5, o6, o7, o8⟩, h⟩ := h
    refine q_aload_n d_Mo_print_44 rfl ?_
    refine p_getR (k := 1) (b := 709) zc_Mo l_Mo_7 fr_Mo_cells d_Mo_print_45 zk_708 rfl ?_
    refine q_bipush d_Mo_print_48 kb_100 ?_
    refine q_iconst d_Mo_print_50 (by decide) ?_
    refine q_iload_n d_Mo_print_51 rfl ?_
    refine q_imul d_Mo_print_52 o5 ?_
    refine q_iconst d_Mo_print_53 (by decide) ?_
    refine q_iadd d_Mo_print_54 o6 ?_
    refine q_imul d_Mo_print_55 o7 ?_
    refine p_iald d_Mo_print_56 zk_709 o8 ?_
    refine q_iconst d_Mo_print_57 (by decide) ?_
    refine q_icmp_eq (tgt := 91) d_Mo_print_58 (by decide) (fun c9 => ?_) (fun c9 => ?_)
    · have h := h.1 (c9)
      exact h
    · have h := h.2 (c9)
      exact h
theorem s_Mo_print_61 {z1 : VV} {z2 : VV} {x3 : Int}  (h : ((0 ≤ D 708 33 ∧ D 708 33 < 2000)) ∧ (∀ D2, D2 = zw D 733 (D 708 33) 47 → (R32 ((D2 708 33) + 1)) ∧ (∀ D5, D5 = zw D2 708 33 ((D2 708 33) + 1) → (R32 (2 * x3) ∧ R32 ((2 * x3) + 1)) ∧ CV g M_Mo_printNumber [vR 708, vI ((2 * x3) + 1)] D5 (fun D' => Sg g M_Mo_print Q 91 [vR 708, vU, vU, vI x3] [] D')))) : Sg g M_Mo_print Q 61 [vR 708, z1, z2, vI x3] [] D := by
  unfold Sg
  refine q_mask [false, true, true, false] (L' := [vR 708, vU, vU, vI x3]) rfl ?_
  obtain ⟨o1, h⟩ := h
  refine q_aload_n d_Mo_print_61 rfl ?_
  refine p_getR (k := 32) (b := 733) zc_Mo l_Mo_84 fr_Mo_printed d_Mo_print_62 zk_708 rfl ?_
  refine q_aload_n d_Mo_print_65 rfl ?_
  refine p_getI (k := 33) zc_Mo l_Mo_235 fi_Mo_printedMany d_Mo_print_66 zk_708 ?_
  refine q_bipush d_Mo_print_69 kb_47 ?_
  refine p_iast d_Mo_print_71 zk_733 o1 (fun D2 e3 => ?_)
  have h := h D2 e3
  obtain ⟨o4, h⟩ := h
  refine q_aload_n d_Mo_print_72 rfl ?_
  refine q_dup d_Mo_print_73 rfl ?_
  refine p_getI (k := 33) zc_Mo l_Mo_235 fi_Mo_printedMany d_Mo_print_74 zk_708 ?_
  refine q_iconst d_Mo_print_77 (by decide) ?_
  refine q_iadd d_Mo_print_78 o4 ?_
  refine p_putI (k := 33) zc_Mo l_Mo_235 fp_Mo_printedMany (Or.inl rfl) d_Mo_print_79 zk_708 (fun D5 e6 => ?_)
  have h := h D5 e6
  obtain ⟨⟨o7, o8⟩, h⟩ := h
  refine q_aload_n d_Mo_print_82 rfl ?_
  refine q_iconst d_Mo_print_83 (by decide) ?_
  refine q_iload_n d_Mo_print_84 rfl ?_
  refine q_imul d_Mo_print_85 o7 ?_
  refine q_iconst d_Mo_print_86 (by decide) ?_
  refine q_iadd d_Mo_print_87 o8 ?_
  refine p_callV (as := [vI ((2 * x3) + 1)]) (st := []) (a := 708) mc_Mo_printNumber mv_Mo_printNumber l_Mo_241 zc_Mo rfl d_Mo_print_88 rfl rfl rfl zk_708 (CV.to ?_)
  exact h
theorem s_Mo_print_91 {z1 : VV} {z2 : VV} {z3 : VV}  (h : Q (some (vI (D 708 33))) zE D) : Sg g M_Mo_print Q 91 [vR 708, z1, z2, z3] [] D := by
  unfold Sg
  refine q_mask [false, true, true, true] (L' := [vR 708, vU, vU, vU]) rfl ?_
  refine q_aload_n d_Mo_print_91 rfl ?_
  refine p_getI (k := 33) zc_Mo l_Mo_235 fi_Mo_printedMany d_Mo_print_92 zk_708 ?_
  exact q_iret d_Mo_print_95 (Or.inl rfl) ⟨Nat.le_refl _, Nat.le_refl _⟩ h
theorem s_Mo_character_0 {x1 : Int}  (h : (∀ D1, D1 = zw D 708 0 0 → (R32 ((D1 708 33) - 1)) ∧ CI g M_Mo_in [vI x1, vI 0, vI ((D1 708 33) - 1)] D1 (fun v4 D' => Sg g M_Mo_character Q 16 [vR 708, vI x1] [vI v4] D'))) : Sg g M_Mo_character Q 0 [vR 708, vI x1] [] D := by
  unfold Sg
  refine q_aload_n d_Mo_character_0 rfl ?_
  refine q_iconst d_Mo_character_1 (by decide) ?_
  refine p_putI (k := 0) zc_Mo l_Mo_91 fp_Mo_thrown (Or.inl rfl) d_Mo_character_2 zk_708 (fun D1 e2 => ?_)
  have h := h D1 e2
  obtain ⟨o3, h⟩ := h
  refine q_iload_n d_Mo_character_5 rfl ?_
  refine q_iconst d_Mo_character_6 (by decide) ?_
  refine q_aload_n d_Mo_character_7 rfl ?_
  refine p_getI (k := 33) zc_Mo l_Mo_235 fi_Mo_printedMany d_Mo_character_8 zk_708 ?_
  refine q_iconst d_Mo_character_11 (by decide) ?_
  refine q_isub d_Mo_character_12 o3 ?_
  refine p_callS (as := [vI x1, vI 0, vI ((D1 708 33) - 1)]) (st := []) mc_Mo_in ms_Mo_in l_Mo_149 d_Mo_character_13 rfl rfl rfl (CI.to ?_)
  exact h
theorem s_Mo_character_16 {x1 : Int} {y0 : Int}  (h : ((y0 = 0 → Q (some (vI (-1))) zE D) ∧ (¬ y0 = 0 → ((0 ≤ x1 ∧ x1 < 2000)) ∧ Q (some (vI (D 733 x1))) zE D))) : Sg g M_Mo_character Q 16 [vR 708, vI x1] [vI y0] D := by
  unfold Sg
  refine q_if_eq (tgt := 28) d_Mo_character_16 (by decide) (fun c1 => ?_) (fun c1 => ?_)
  · have h := h.1 (c1)
    refine q_iconst d_Mo_character_28 (by decide) ?_
    exact q_iret d_Mo_character_29 (Or.inl rfl) ⟨Nat.le_refl _, Nat.le_refl _⟩ h
  · have h := h.2 (c1)
    obtain ⟨o2, h⟩ := h
    refine q_aload_n d_Mo_character_19 rfl ?_
    refine p_getR (k := 32) (b := 733) zc_Mo l_Mo_84 fr_Mo_printed d_Mo_character_20 zk_708 rfl ?_
    refine q_iload_n d_Mo_character_23 rfl ?_
    refine p_iald d_Mo_character_24 zk_733 o2 ?_
    refine q_goto (tgt := 29) d_Mo_character_25 (by decide) ?_
    exact q_iret d_Mo_character_29 (Or.inl rfl) ⟨Nat.le_refl _, Nat.le_refl _⟩ h
theorem s_Mo_compare_0 {x1 : Int} {x2 : Int} {x3 : Int} {x4 : Int}  (h : (∀ D1, D1 = zw D 708 0 0 → CI g M_Mo_fraction [vR 708, vI x1, vI x2] D1 (fun v3 D' => Sg g M_Mo_compare Q 11 [vR 708, vI x1, vI x2, vI x3, vI x4, vU, vU] [vI v3] D'))) : Sg g M_Mo_compare Q 0 [vR 708, vI x1, vI x2, vI x3, vI x4, vU, vU] [] D := by
  unfold Sg
  refine q_aload_n d_Mo_compare_0 rfl ?_
  refine q_iconst d_Mo_compare_1 (by decide) ?_
  refine p_putI (k := 0) zc_Mo l_Mo_91 fp_Mo_thrown (Or.inl rfl) d_Mo_compare_2 zk_708 (fun D1 e2 => ?_)
  have h := h D1 e2
  refine q_aload_n d_Mo_compare_5 rfl ?_
  refine q_iload_n d_Mo_compare_6 rfl ?_
  refine q_iload_n d_Mo_compare_7 rfl ?_
  refine p_callV (as := [vI x1, vI x2]) (st := []) (a := 708) mc_Mo_fraction mv_Mo_fraction l_Mo_238 zc_Mo rfl d_Mo_compare_8 rfl rfl rfl zk_708 (CI.to ?_)
  exact h
theorem s_Mo_compare_11 {z1 : VV} {z2 : VV} {x3 : Int} {x4 : Int} {z5 : VV} {z6 : VV} {y0 : Int}  (h : CI g M_Mo_fraction [vR 708, vI x3, vI x4] D (fun v1 D' => Sg g M_Mo_compare Q 20 [vR 708, vU, vU, vI x3, vI x4, vI y0, vU] [vI v1] D')) : Sg g M_Mo_compare Q 11 [vR 708, z1, z2, vI x3, vI x4, z5, z6] [vI y0] D := by
  unfold Sg
  refine q_mask [false, true, true, false, false, true, true] (L' := [vR 708, vU, vU, vI x3, vI x4, vU, vU]) rfl ?_
  refine q_istore d_Mo_compare_11 (by decide) (L' := [vR 708, vU, vU, vI x3, vI x4, vI y0, vU]) rfl ?_
  refine q_aload_n d_Mo_compare_13 rfl ?_
  refine q_iload_n d_Mo_compare_14 rfl ?_
  refine q_iload d_Mo_compare_15 rfl ?_
  refine p_callV (as := [vI x3, vI x4]) (st := []) (a := 708) mc_Mo_fraction mv_Mo_fraction l_Mo_238 zc_Mo rfl d_Mo_compare_17 rfl rfl rfl zk_708 (CI.to ?_)
  exact h
theorem s_Mo_compare_20 {z1 : VV} {z2 : VV} {z3 : VV} {z4 : VV} {x5 : Int} {z6 : VV} {y0 : Int}  (h : ((x5 < 0 → Q (some (vI (-2))) zE D) ∧ (¬ x5 < 0 → ((0 ≤ y0 → (R32 (2 * x5) ∧ R32 (2 * y0) ∧ R32 ((2 * y0) + 1)) ∧ CV g M_Mo_multiply [vR 708, vI (2 * x5), vI ((2 * y0) + 1), vI 244] D (fun D' => Sg g M_Mo_compare Q 52 [vR 708, vU, vU, vU, vU, vI x5, vI y0] [] D')) ∧ (¬ 0 ≤ y0 → Q (some (vI (-2))) zE D))))) : Sg g M_Mo_compare Q 20 [vR 708, z1, z2, z3, z4, vI x5, z6] [vI y0] D := by
  unfold Sg
  refine q_mask [false, true, true, true, true, false, true] (L' := [vR 708, vU, vU, vU, vU, vI x5, vU]) rfl ?_
  refine q_istore d_Mo_compare_20 (by decide) (L' := [vR 708, vU, vU, vU, vU, vI x5, vI y0]) rfl ?_
  refine q_iload d_Mo_compare_22 rfl ?_
  refine q_if_lt (tgt := 32) d_Mo_compare_24 (by decide) (fun c1 => ?_) (fun c1 => ?_)
  · have h := h.1 (c1)
    refine q_bipush d_Mo_compare_32 kb_m2 ?_
    exact q_iret d_Mo_compare_34 (Or.inl rfl) ⟨Nat.le_refl _, Nat.le_refl _⟩ h
  · have h := h.2 (c1)
    refine q_iload d_Mo_compare_27 rfl ?_
    refine q_if_ge (tgt := 35) d_Mo_compare_29 (by decide) (fun c2 => ?_) (fun c2 => ?_)
    · have h := h.1 (c2)
      obtain ⟨⟨o3, o4, o5⟩, h⟩ := h
      refine q_aload_n d_Mo_compare_35 rfl ?_
      refine q_iconst d_Mo_compare_36 (by decide) ?_
      refine q_iload d_Mo_compare_37 rfl ?_
      refine q_imul d_Mo_compare_39 o3 ?_
      refine q_iconst d_Mo_compare_40 (by decide) ?_
      refine q_iload d_Mo_compare_41 rfl ?_
      refine q_imul d_Mo_compare_43 o4 ?_
      refine q_iconst d_Mo_compare_44 (by decide) ?_
      refine q_iadd d_Mo_compare_45 o5 ?_
      refine q_sipush d_Mo_compare_46 ks_244 ?_
      refine p_callV (as := [vI (2 * x5), vI ((2 * y0) + 1), vI 244]) (st := []) (a := 708) mc_Mo_multiply mv_Mo_multiply l_Mo_140 zc_Mo rfl d_Mo_compare_49 rfl rfl rfl zk_708 (CV.to ?_)
      exact h
    · have h := h.2 (c2)
      refine q_bipush d_Mo_compare_32 kb_m2 ?_
      exact q_iret d_Mo_compare_34 (Or.inl rfl) ⟨Nat.le_refl _, Nat.le_refl _⟩ h
theorem s_Mo_compare_52 {z1 : VV} {z2 : VV} {z3 : VV} {z4 : VV} {x5 : Int} {x6 : Int}  (h : (R32 (2 * x6) ∧ R32 (2 * x5) ∧ R32 ((2 * x5) + 1)) ∧ CV g M_Mo_multiply [vR 708, vI (2 * x6), vI ((2 * x5) + 1), vI 245] D (fun D' => Sg g M_Mo_compare Q 69 [vR 708, vU, vU, vU, vU, vI x5, vI x6] [] D')) : Sg g M_Mo_compare Q 52 [vR 708, z1, z2, z3, z4, vI x5, vI x6] [] D := by
  unfold Sg
  refine q_mask [false, true, true, true, true, false, false] (L' := [vR 708, vU, vU, vU, vU, vI x5, vI x6]) rfl ?_
  obtain ⟨⟨o1, o2, o3⟩, h⟩ := h
  refine q_aload_n d_Mo_compare_52 rfl ?_
  refine q_iconst d_Mo_compare_53 (by decide) ?_
  refine q_iload d_Mo_compare_54 rfl ?_
  refine q_imul d_Mo_compare_56 o1 ?_
  refine q_iconst d_Mo_compare_57 (by decide) ?_
  refine q_iload d_Mo_compare_58 rfl ?_
  refine q_imul d_Mo_compare_60 o2 ?_
  refine q_iconst d_Mo_compare_61 (by decide) ?_
  refine q_iadd d_Mo_compare_62 o3 ?_
  refine q_sipush d_Mo_compare_63 ks_245 ?_
  refine p_callV (as := [vI (2 * x6), vI ((2 * x5) + 1), vI 245]) (st := []) (a := 708) mc_Mo_multiply mv_Mo_multiply l_Mo_140 zc_Mo rfl d_Mo_compare_66 rfl rfl rfl zk_708 (CV.to ?_)
  exact h
theorem s_Mo_compare_69 {z1 : VV} {z2 : VV} {z3 : VV} {z4 : VV} {z5 : VV} {z6 : VV}  (h : CI g M_Mo_order [vR 708, vI 244, vI 245] D (fun v1 D' => Sg g M_Mo_compare Q 79 [vR 708, vU, vU, vU, vU, vU, vU] [vI v1] D')) : Sg g M_Mo_compare Q 69 [vR 708, z1, z2, z3, z4, z5, z6] [] D := by
  unfold Sg
  refine q_mask [false, true, true, true, true, true, true] (L' := [vR 708, vU, vU, vU, vU, vU, vU]) rfl ?_
  refine q_aload_n d_Mo_compare_69 rfl ?_
  refine q_sipush d_Mo_compare_70 ks_244 ?_
  refine q_sipush d_Mo_compare_73 ks_245 ?_
  refine p_callV (as := [vI 244, vI 245]) (st := []) (a := 708) mc_Mo_order mv_Mo_order l_Mo_117 zc_Mo rfl d_Mo_compare_76 rfl rfl rfl zk_708 (CI.to ?_)
  exact h
theorem s_Mo_compare_79 {z0 : VV} {z1 : VV} {z2 : VV} {z3 : VV} {z4 : VV} {z5 : VV} {z6 : VV} {y0 : Int}  (h : Q (some (vI y0)) zE D) : Sg g M_Mo_compare Q 79 [z0, z1, z2, z3, z4, z5, z6] [vI y0] D := by
  unfold Sg
  refine q_mask [true, true, true, true, true, true, true] (L' := [vU, vU, vU, vU, vU, vU, vU]) rfl ?_
  exact q_iret d_Mo_compare_79 (Or.inl rfl) ⟨Nat.le_refl _, Nat.le_refl _⟩ h
theorem s_Mo_speedOf_0 {x1 : Int}  (h : ((0 ≤ x1 ∧ x1 < 24) ∧ (0 ≤ x1 ∧ x1 < 24) ∧ vf_n64 (FP.ddiv (zdu (zl2d (D 725 x1))) (zdu (zl2d (D 726 x1))))) ∧ Q (some (vD (zddiv (zl2d (D 725 x1)) (zl2d (D 726 x1))))) zE D) : Sg g M_Mo_speedOf Q 0 [vR 708, vI x1] [] D := by
  unfold Sg
  obtain ⟨⟨o1, o2, o3⟩, h⟩ := h
  refine q_aload_n d_Mo_speedOf_0 rfl ?_
  refine p_getR (k := 23) (b := 725) zc_Mo l_Mo_60 fr_Mo_stepAbove d_Mo_speedOf_1 zk_708 rfl ?_
  refine q_iload_n d_Mo_speedOf_4 rfl ?_
  refine p_lald d_Mo_speedOf_5 zk_725 o1 ?_
  refine q_l2d d_Mo_speedOf_6 ?_
  refine q_aload_n d_Mo_speedOf_7 rfl ?_
  refine p_getR (k := 24) (b := 726) zc_Mo l_Mo_63 fr_Mo_stepBelow d_Mo_speedOf_8 zk_708 rfl ?_
  refine q_iload_n d_Mo_speedOf_11 rfl ?_
  refine p_lald d_Mo_speedOf_12 zk_726 o2 ?_
  refine q_l2d d_Mo_speedOf_13 ?_
  refine q_ddiv d_Mo_speedOf_14 o3 ?_
  exact q_dret d_Mo_speedOf_15 rfl ⟨Nat.le_refl _, Nat.le_refl _⟩ h
theorem s_Mo_near_0   (h : (∀ D1, D1 = zw D 708 0 0 → Sg g M_Mo_near Q 9 [vR 708, vD 0, vU, vI 0, vU, vU] [] D1)) : Sg g M_Mo_near Q 0 [vR 708, vU, vU, vU, vU, vU] [] D := by
  unfold Sg
  refine q_aload_n d_Mo_near_0 rfl ?_
  refine q_iconst d_Mo_near_1 (by decide) ?_
  refine p_putI (k := 0) zc_Mo l_Mo_91 fp_Mo_thrown (Or.inl rfl) d_Mo_near_2 zk_708 (fun D1 e2 => ?_)
  have h := h D1 e2
  refine q_dconst0 d_Mo_near_5 ?_
  refine q_dstore_n d_Mo_near_6 (by decide) (L' := [vR 708, vD 0, vU, vU, vU, vU]) rfl ?_
  refine q_iconst d_Mo_near_7 (by decide) ?_
  refine q_istore_n d_Mo_near_8 (by decide) (L' := [vR 708, vD 0, vU, vI 0, vU, vU]) rfl ?_
  exact h
theorem s_Mo_near_9 {x1 : Int} {x3 : Int} {z4 : VV} {z5 : VV}  (h : (((D 708 20) ≤ x3 → Q (some (vD x1)) zE D) ∧ (¬ (D 708 20) ≤ x3 → (((D 708 10) = 0 → Q (some (vD x1)) zE D) ∧ (¬ (D 708 10) = 0 → CD g M_Mo_speedOf [vR 708, vI x3] D (fun v3 D' => Sg g M_Mo_near Q 29 [vR 708, vD x1, vU, vI x3, vU, vU] [vD v3] D')))))) : Sg g M_Mo_near Q 9 [vR 708, vD x1, vU, vI x3, z4, z5] [] D := by
  unfold Sg
  refine q_mask [false, false, false, false, true, true] (L' := [vR 708, vD x1, vU, vI x3, vU, vU]) rfl ?_
  refine q_iload_n d_Mo_near_9 rfl ?_
  refine q_aload_n d_Mo_near_10 rfl ?_
  refine p_getI (k := 20) zc_Mo l_Mo_184 fi_Mo_planSteps d_Mo_near_11 zk_708 ?_
  refine q_icmp_ge (tgt := 63) d_Mo_near_14 (by decide) (fun c1 => ?_) (fun c1 => ?_)
  · have h := h.1 (c1)
    refine q_dload_n d_Mo_near_63 rfl ?_
    exact q_dret d_Mo_near_64 rfl ⟨Nat.le_refl _, Nat.le_refl _⟩ h
  · have h := h.2 (c1)
    refine q_aload_n d_Mo_near_17 rfl ?_
    refine p_getI (k := 10) zc_Mo l_Mo_87 fi_Mo_planned d_Mo_near_18 zk_708 ?_
    refine q_if_eq (tgt := 63) d_Mo_near_21 (by decide) (fun c2 => ?_) (fun c2 => ?_)
    · have h := h.1 (c2)
      refine q_dload_n d_Mo_near_63 rfl ?_
      exact q_dret d_Mo_near_64 rfl ⟨Nat.le_refl _, Nat.le_refl _⟩ h
    · have h := h.2 (c2)
      refine q_aload_n d_Mo_near_24 rfl ?_
      refine q_iload_n d_Mo_near_25 rfl ?_
      refine p_callV (as := [vI x3]) (st := []) (a := 708) mc_Mo_speedOf mv_Mo_speedOf l_Mo_244 zc_Mo rfl d_Mo_near_26 rfl rfl rfl zk_708 (CD.to ?_)
      exact h
theorem s_Mo_near_29 {x1 : Int} {x3 : Int} {z4 : VV} {z5 : VV} {y0 : Int}  (h : ((0 ≤ x3 ∧ x3 < 24) ∧ (0 ≤ x3 ∧ x3 < 24) ∧ R32 ((D 724 x3) - (D 723 x3)) ∧ vf_n64 (FP.dmul (zdu y0) (zdu y0)) ∧ vf_n64 (FP.dmul (zdu (zdmul y0 y0)) (zdu y0)) ∧ vf_n64 (FP.dmul (zdu (zi2d ((D 724 x3) - (D 723 x3)))) (zdu (zdmul (zdmul y0 y0) y0))) ∧ vf_n64 (FP.dadd (zdu x1) (zdu (zdmul (zi2d ((D 724 x3) - (D 723 x3))) (zdmul (zdmul y0 y0) y0)))) ∧ R32 (x3 + 1)) ∧ Sg g M_Mo_near Q 9 [vR 708, vD (zdadd x1 (zdmul (zi2d ((D 724 x3) - (D 723 x3))) (zdmul (zdmul y0 y0) y0))), vU, vI (x3 + 1), vD y0, vU] [] D) : Sg g M_Mo_near Q 29 [vR 708, vD x1, vU, vI x3, z4, z5] [vD y0] D := by
  unfold Sg
  refine q_mask [false, false, false, false, true, true] (L' := [vR 708, vD x1, vU, vI x3, vU, vU]) rfl ?_
  obtain ⟨⟨o1, o2, o3, o4, o5, o6, o7, o8⟩, h⟩ := h
  refine q_dstore d_Mo_near_29 (by decide) (L' := [vR 708, vD x1, vU, vI x3, vD y0, vU]) rfl ?_
  refine q_dload_n d_Mo_near_31 rfl ?_
  refine q_aload_n d_Mo_near_32 rfl ?_
  refine p_getR (k := 22) (b := 724) zc_Mo l_Mo_57 fr_Mo_planEnds d_Mo_near_33 zk_708 rfl ?_
  refine q_iload_n d_Mo_near_36 rfl ?_
  refine p_iald d_Mo_near_37 zk_724 o1 ?_
  refine q_aload_n d_Mo_near_38 rfl ?_
  refine p_getR (k := 21) (b := 723) zc_Mo l_Mo_54 fr_Mo_planBegins d_Mo_near_39 zk_708 rfl ?_
  refine q_iload_n d_Mo_near_42 rfl ?_
  refine p_iald d_Mo_near_43 zk_723 o2 ?_
  refine q_isub d_Mo_near_44 o3 ?_
  refine q_i2d d_Mo_near_45 ?_
  refine q_dload d_Mo_near_46 rfl ?_
  refine q_dload d_Mo_near_48 rfl ?_
  refine q_dmul d_Mo_near_50 o4 ?_
  refine q_dload d_Mo_near_51 rfl ?_
  refine q_dmul d_Mo_near_53 o5 ?_
  refine q_dmul d_Mo_near_54 o6 ?_
  refine q_dadd d_Mo_near_55 o7 ?_
  refine q_dstore_n d_Mo_near_56 (by decide) (L' := [vR 708, vD (zdadd x1 (zdmul (zi2d ((D 724 x3) - (D 723 x3))) (zdmul (zdmul y0 y0) y0))), vU, vI x3, vD y0, vU]) rfl ?_
  refine q_iinc d_Mo_near_57 rfl (by decide) o8 (L' := [vR 708, vD (zdadd x1 (zdmul (zi2d ((D 724 x3) - (D 723 x3))) (zdmul (zdmul y0 y0) y0))), vU, vI (x3 + 1), vD y0, vU]) rfl ?_
  refine q_goto (tgt := 9) d_Mo_near_60 (by decide) ?_
  exact h
theorem s_Mo_speed_0 {x1 : Int}  (h : (∀ D1, D1 = zw D 708 0 0 → Sg g M_Mo_speed Q 7 [vR 708, vD x1, vU, vI 0] [] D1)) : Sg g M_Mo_speed Q 0 [vR 708, vD x1, vU, vU] [] D := by
  unfold Sg
  refine q_aload_n d_Mo_speed_0 rfl ?_
  refine q_iconst d_Mo_speed_1 (by decide) ?_
  refine p_putI (k := 0) zc_Mo l_Mo_91 fp_Mo_thrown (Or.inl rfl) d_Mo_speed_2 zk_708 (fun D1 e2 => ?_)
  have h := h D1 e2
  refine q_iconst d_Mo_speed_5 (by decide) ?_
  refine q_istore_n d_Mo_speed_6 (by decide) (L' := [vR 708, vD x1, vU, vI 0]) rfl ?_
  exact h
theorem s_Mo_speed_7 {x1 : Int} {x3 : Int}  (h : (((D 708 20) ≤ x3 → Q (some (vD 0)) zE D) ∧ (¬ (D 708 20) ≤ x3 → (((D 708 10) = 0 → Q (some (vD 0)) zE D) ∧ (¬ (D 708 10) = 0 → ((0 ≤ x3 ∧ x3 < 24)) ∧ ((0 < (zdcmp .g (zi2d (D 723 x3)) x1) → Sg g M_Mo_speed Q 52 [vR 708, vD x1, vU, vI x3] [] D) ∧ (¬ 0 < (zdcmp .g (zi2d (D 723 x3)) x1) → ((0 ≤ x3 ∧ x3 < 24)) ∧ ((0 ≤ (zdcmp .g x1 (zi2d (D 724 x3))) → Sg g M_Mo_speed Q 52 [vR 708, vD x1, vU, vI x3] [] D) ∧ (¬ 0 ≤ (zdcmp .g x1 (zi2d (D 724 x3))) → CD g M_Mo_speedOf [vR 708, vI x3] D (fun v7 D' => Sg g M_Mo_speed Q 51 [vR 708, vD x1, vU, vI x3] [vD v7] D')))))))))) : Sg g M_Mo_speed Q 7 [vR 708, vD x1, vU, vI x3] [] D := by
  unfold Sg
  refine q_iload_n d_Mo_speed_7 rfl ?_
  refine q_aload_n d_Mo_speed_8 rfl ?_
  refine p_getI (k := 20) zc_Mo l_Mo_184 fi_Mo_planSteps d_Mo_speed_9 zk_708 ?_
  refine q_icmp_ge (tgt := 58) d_Mo_speed_12 (by decide) (fun c1 => ?_) (fun c1 => ?_)
  · have h := h.1 (c1)
    refine q_dconst0 d_Mo_speed_58 ?_
    exact q_dret d_Mo_speed_59 rfl ⟨Nat.le_refl _, Nat.le_refl _⟩ h
  · have h := h.2 (c1)
    refine q_aload_n d_Mo_speed_15 rfl ?_
    refine p_getI (k := 10) zc_Mo l_Mo_87 fi_Mo_planned d_Mo_speed_16 zk_708 ?_
    refine q_if_eq (tgt := 58) d_Mo_speed_19 (by decide) (fun c2 => ?_) (fun c2 => ?_)
    · have h := h.1 (c2)
      refine q_dconst0 d_Mo_speed_58 ?_
      exact q_dret d_Mo_speed_59 rfl ⟨Nat.le_refl _, Nat.le_refl _⟩ h
    · have h := h.2 (c2)
      obtain ⟨o3, h⟩ := h
      refine q_aload_n d_Mo_speed_22 rfl ?_
      refine p_getR (k := 21) (b := 723) zc_Mo l_Mo_54 fr_Mo_planBegins d_Mo_speed_23 zk_708 rfl ?_
      refine q_iload_n d_Mo_speed_26 rfl ?_
      refine p_iald d_Mo_speed_27 zk_723 o3 ?_
      refine q_i2d d_Mo_speed_28 ?_
      refine q_dload_n d_Mo_speed_29 rfl ?_
      refine q_dcmp d_Mo_speed_30 ?_
      refine q_if_gt (tgt := 52) d_Mo_speed_31 (by decide) (fun c4 => ?_) (fun c4 => ?_)
      · have h := h.1 (c4)
        exact h
      · have h := h.2 (c4)
        obtain ⟨o5, h⟩ := h
        refine q_dload_n d_Mo_speed_34 rfl ?_
        refine q_aload_n d_Mo_speed_35 rfl ?_
        refine p_getR (k := 22) (b := 724) zc_Mo l_Mo_57 fr_Mo_planEnds d_Mo_speed_36 zk_708 rfl ?_
        refine q_iload_n d_Mo_speed_39 rfl ?_
        refine p_iald d_Mo_speed_40 zk_724 o5 ?_
        refine q_i2d d_Mo_speed_41 ?_
        refine q_dcmp d_Mo_speed_42 ?_
        refine q_if_ge (tgt := 52) d_Mo_speed_43 (by decide) (fun c6 => ?_) (fun c6 => ?_)
        · have h := h.1 (c6)
          exact h
        · have h := h.2 (c6)
          refine q_aload_n d_Mo_speed_46 rfl ?_
          refine q_iload_n d_Mo_speed_47 rfl ?_
          refine p_callV (as := [vI x3]) (st := []) (a := 708) mc_Mo_speedOf mv_Mo_speedOf l_Mo_244 zc_Mo rfl d_Mo_speed_48 rfl rfl rfl zk_708 (CD.to ?_)
          exact h
theorem s_Mo_speed_52 {x1 : Int} {x3 : Int}  (h : (R32 (x3 + 1)) ∧ Sg g M_Mo_speed Q 7 [vR 708, vD x1, vU, vI (x3 + 1)] [] D) : Sg g M_Mo_speed Q 52 [vR 708, vD x1, vU, vI x3] [] D := by
  unfold Sg
  obtain ⟨o1, h⟩ := h
  refine q_iinc d_Mo_speed_52 rfl (by decide) o1 (L' := [vR 708, vD x1, vU, vI (x3 + 1)]) rfl ?_
  refine q_goto (tgt := 7) d_Mo_speed_55 (by decide) ?_
  exact h
theorem s_Mo_speed_51 {z0 : VV} {z1 : VV} {z2 : VV} {z3 : VV} {y0 : Int}  (h : Q (some (vD y0)) zE D) : Sg g M_Mo_speed Q 51 [z0, z1, z2, z3] [vD y0] D := by
  unfold Sg
  refine q_mask [true, true, true, true] (L' := [vU, vU, vU, vU]) rfl ?_
  exact q_dret d_Mo_speed_51 rfl ⟨Nat.le_refl _, Nat.le_refl _⟩ h
theorem s_Mo_working_0 {x1 : Int} {x2 : Int}  (h : (∀ D1, D1 = zw D 708 0 0 → CI g M_Mo_in [vI x2, vI 0, vI 199] D1 (fun v3 D' => Sg g M_Mo_working Q 13 [vR 708, vI x1, vI x2] [vI v3] D'))) : Sg g M_Mo_working Q 0 [vR 708, vI x1, vI x2] [] D := by
  unfold Sg
  refine q_aload_n d_Mo_working_0 rfl ?_
  refine q_iconst d_Mo_working_1 (by decide) ?_
  refine p_putI (k := 0) zc_Mo l_Mo_91 fp_Mo_thrown (Or.inl rfl) d_Mo_working_2 zk_708 (fun D1 e2 => ?_)
  have h := h D1 e2
  refine q_iload_n d_Mo_working_5 rfl ?_
  refine q_iconst d_Mo_working_6 (by decide) ?_
  refine q_sipush d_Mo_working_7 ks_199 ?_
  refine p_callS (as := [vI x2, vI 0, vI 199]) (st := []) mc_Mo_in ms_Mo_in l_Mo_149 d_Mo_working_10 rfl rfl rfl (CI.to ?_)
  exact h
theorem s_Mo_working_13 {x1 : Int} {x2 : Int} {y0 : Int}  (h : ((¬ y0 = 0 → ((¬ x1 = 0 → Sg g M_Mo_working Q 38 [vR 708, vI x1, vI x2] [] D) ∧ (x1 = 0 → (((D 708 10) = 0 → Sg g M_Mo_working Q 38 [vR 708, vI x1, vI x2] [] D) ∧ (¬ (D 708 10) = 0 → ((0 ≤ x2 ∧ x2 < 200)) ∧ Q (some (vI (D 727 x2))) zE D))))) ∧ (y0 = 0 → Q (some (vI (-1))) zE D))) : Sg g M_Mo_working Q 13 [vR 708, vI x1, vI x2] [vI y0] D := by
  unfold Sg
  refine q_if_ne (tgt := 18) d_Mo_working_13 (by decide) (fun c1 => ?_) (fun c1 => ?_)
  · have h := h.1 (c1)
    refine q_iload_n d_Mo_working_18 rfl ?_
    refine q_if_ne (tgt := 38) d_Mo_working_19 (by decide) (fun c2 => ?_) (fun c2 => ?_)
    · have h := h.1 (c2)
      exact h
    · have h := h.2 (c2)
      refine q_aload_n d_Mo_working_22 rfl ?_
      refine p_getI (k := 10) zc_Mo l_Mo_87 fi_Mo_planned d_Mo_working_23 zk_708 ?_
      refine q_if_eq (tgt := 38) d_Mo_working_26 (by decide) (fun c3 => ?_) (fun c3 => ?_)
      · have h := h.1 (c3)
        exact h
      · have h := h.2 (c3)
        obtain ⟨o4, h⟩ := h
        refine q_aload_n d_Mo_working_29 rfl ?_
        refine p_getR (k := 25) (b := 727) zc_Mo l_Mo_66 fr_Mo_planWorks d_Mo_working_30 zk_708 rfl ?_
        refine q_iload_n d_Mo_working_33 rfl ?_
        refine p_iald d_Mo_working_34 zk_727 o4 ?_
        refine q_goto (tgt := 60) d_Mo_working_35 (by decide) ?_
        exact q_iret d_Mo_working_60 (Or.inl rfl) ⟨Nat.le_refl _, Nat.le_refl _⟩ h
  · have h := h.2 (c1)
    refine q_iconst d_Mo_working_16 (by decide) ?_
    exact q_iret d_Mo_working_17 (Or.inl rfl) ⟨Nat.le_refl _, Nat.le_refl _⟩ h
theorem s_Mo_working_38 {x1 : Int} {x2 : Int}  (h : ((¬ x1 = 1 → Q (some (vI (-1))) zE D) ∧ (x1 = 1 → (((D 708 11) = 0 → Q (some (vI (-1))) zE D) ∧ (¬ (D 708 11) = 0 → ((0 ≤ x2 ∧ x2 < 200)) ∧ Q (some (vI (D 730 x2))) zE D))))) : Sg g M_Mo_working Q 38 [vR 708, vI x1, vI x2] [] D := by
  unfold Sg
  refine q_iload_n d_Mo_working_38 rfl ?_
  refine q_iconst d_Mo_working_39 (by decide) ?_
  refine q_icmp_ne (tgt := 59) d_Mo_working_40 (by decide) (fun c1 => ?_) (fun c1 => ?_)
  · have h := h.1 (c1)
    refine q_iconst d_Mo_working_59 (by decide) ?_
    exact q_iret d_Mo_working_60 (Or.inl rfl) ⟨Nat.le_refl _, Nat.le_refl _⟩ h
  · have h := h.2 (c1)
    refine q_aload_n d_Mo_working_43 rfl ?_
    refine p_getI (k := 11) zc_Mo l_Mo_156 fi_Mo_gone d_Mo_working_44 zk_708 ?_
    refine q_if_eq (tgt := 59) d_Mo_working_47 (by decide) (fun c2 => ?_) (fun c2 => ?_)
    · have h := h.1 (c2)
      refine q_iconst d_Mo_working_59 (by decide) ?_
      exact q_iret d_Mo_working_60 (Or.inl rfl) ⟨Nat.le_refl _, Nat.le_refl _⟩ h
    · have h := h.2 (c2)
      obtain ⟨o3, h⟩ := h
      refine q_aload_n d_Mo_working_50 rfl ?_
      refine p_getR (k := 29) (b := 730) zc_Mo l_Mo_75 fr_Mo_aheadWorks d_Mo_working_51 zk_708 rfl ?_
      refine q_iload_n d_Mo_working_54 rfl ?_
      refine p_iald d_Mo_working_55 zk_730 o3 ?_
      refine q_goto (tgt := 60) d_Mo_working_56 (by decide) ?_
      exact q_iret d_Mo_working_60 (Or.inl rfl) ⟨Nat.le_refl _, Nat.le_refl _⟩ h
theorem s_Mo_check_0   (h : (∀ D1, D1 = zw D 708 0 0 → (((D1 708 10) = 0 → Q (some (vI (-1))) zE D1) ∧ (¬ (D1 708 10) = 0 → Q (some (vI 1)) zE D1)))) : Sg g M_Mo_check Q 0 [vR 708] [] D := by
  unfold Sg
  refine q_aload_n d_Mo_check_0 rfl ?_
  refine q_iconst d_Mo_check_1 (by decide) ?_
  refine p_putI (k := 0) zc_Mo l_Mo_91 fp_Mo_thrown (Or.inl rfl) d_Mo_check_2 zk_708 (fun D1 e2 => ?_)
  have h := h D1 e2
  refine q_aload_n d_Mo_check_5 rfl ?_
  refine p_getI (k := 10) zc_Mo l_Mo_87 fi_Mo_planned d_Mo_check_6 zk_708 ?_
  refine q_if_eq (tgt := 16) d_Mo_check_9 (by decide) (fun c3 => ?_) (fun c3 => ?_)
  · have h := h.1 (c3)
    refine q_iconst d_Mo_check_16 (by decide) ?_
    exact q_iret d_Mo_check_17 (Or.inl rfl) ⟨Nat.le_refl _, Nat.le_refl _⟩ h
  · have h := h.2 (c3)
    refine q_iconst d_Mo_check_12 (by decide) ?_
    refine q_goto (tgt := 17) d_Mo_check_13 (by decide) ?_
    exact q_iret d_Mo_check_17 (Or.inl rfl) ⟨Nat.le_refl _, Nat.le_refl _⟩ h
end SEG
