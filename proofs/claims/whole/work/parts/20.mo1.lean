/-! printed by wip/whole/tools/seg.py: Mo_set, Mo_copy, Mo_part, Mo_trim, Mo_order, Mo_add, Mo_subtract, Mo_multiply, Mo_multiplyBy, Mo_divideBy, Mo_isEven, Mo_common, Mo_divide, Mo_reduce, Mo_tell, Mo_sumUp, Mo_sumCube, Mo_keep, Mo_isSame, Mo_in, Mo_thrown -/
theorem zk_708 : zk 708 = (0, 11, 0) := by decide +kernel
theorem zk_709 : zk 709 = (1, 26000, 0) := by decide +kernel
theorem zk_710 : zk 710 = (1, 260, 0) := by decide +kernel
theorem kb_23 : (Int8.ofInt 23).toInt32 = Int32.ofInt 23 ∧ R32 23 := ⟨by decide +kernel, by decide⟩
theorem kb_100 : (Int8.ofInt 100).toInt32 = Int32.ofInt 100 ∧ R32 100 := ⟨by decide +kernel, by decide⟩
theorem kb_111 : (Int8.ofInt 111).toInt32 = Int32.ofInt 111 ∧ R32 111 := ⟨by decide +kernel, by decide⟩
theorem kb_112 : (Int8.ofInt 112).toInt32 = Int32.ofInt 112 ∧ R32 112 := ⟨by decide +kernel, by decide⟩
theorem ks_222 : (Int16.ofInt 222).toInt32 = Int32.ofInt 222 ∧ R32 222 := ⟨by decide +kernel, by decide⟩
theorem ks_223 : (Int16.ofInt 223).toInt32 = Int32.ofInt 223 ∧ R32 223 := ⟨by decide +kernel, by decide⟩
theorem ks_224 : (Int16.ofInt 224).toInt32 = Int32.ofInt 224 ∧ R32 224 := ⟨by decide +kernel, by decide⟩
theorem ks_225 : (Int16.ofInt 225).toInt32 = Int32.ofInt 225 ∧ R32 225 := ⟨by decide +kernel, by decide⟩
theorem ks_244 : (Int16.ofInt 244).toInt32 = Int32.ofInt 244 ∧ R32 244 := ⟨by decide +kernel, by decide⟩
theorem ks_245 : (Int16.ofInt 245).toInt32 = Int32.ofInt 245 ∧ R32 245 := ⟨by decide +kernel, by decide⟩
theorem ks_248 : (Int16.ofInt 248).toInt32 = Int32.ofInt 248 ∧ R32 248 := ⟨by decide +kernel, by decide⟩
theorem ks_249 : (Int16.ofInt 249).toInt32 = Int32.ofInt 249 ∧ R32 249 := ⟨by decide +kernel, by decide⟩
theorem ks_250 : (Int16.ofInt 250).toInt32 = Int32.ofInt 250 ∧ R32 250 := ⟨by decide +kernel, by decide⟩
theorem ks_251 : (Int16.ofInt 251).toInt32 = Int32.ofInt 251 ∧ R32 251 := ⟨by decide +kernel, by decide⟩
theorem ks_252 : (Int16.ofInt 252).toInt32 = Int32.ofInt 252 ∧ R32 252 := ⟨by decide +kernel, by decide⟩
theorem ks_24800 : (Int16.ofInt 24800).toInt32 = Int32.ofInt 24800 ∧ R32 24800 := ⟨by decide +kernel, by decide⟩
theorem ks_25100 : (Int16.ofInt 25100).toInt32 = Int32.ofInt 25100 ∧ R32 25100 := ⟨by decide +kernel, by decide⟩
theorem ks_25200 : (Int16.ofInt 25200).toInt32 = Int32.ofInt 25200 ∧ R32 25200 := ⟨by decide +kernel, by decide⟩
theorem fi_Mo_thrown : 0 < 34 ∧ (zft 11 0).1 ≠ 2 ∧ ((0 : Nat) : Int) = 0 := ⟨by decide, by decide +kernel, rfl⟩
theorem fr_Mo_cells : 1 < 34 ∧ zft 11 1 = (2, 1) := ⟨by decide, by decide +kernel⟩
theorem fr_Mo_sizes : 2 < 34 ∧ zft 11 2 = (2, 2) := ⟨by decide, by decide +kernel⟩
theorem d_Mo_set_0 : decode prog_13_method_3_code 0 = .ok (.lload_n 2, 1) := by decide +kernel
theorem d_Mo_set_1 : decode prog_13_method_3_code 1 = .ok (.lstore 4, 2) := by decide +kernel
theorem d_Mo_set_3 : decode prog_13_method_3_code 3 = .ok (.aload_n 0, 1) := by decide +kernel
theorem d_Mo_set_4 : decode prog_13_method_3_code 4 = .ok (.getfield 13, 3) := by decide +kernel
theorem d_Mo_set_7 : decode prog_13_method_3_code 7 = .ok (.iload_n 1, 1) := by decide +kernel
theorem d_Mo_set_8 : decode prog_13_method_3_code 8 = .ok (.iconst 0, 1) := by decide +kernel
theorem d_Mo_set_9 : decode prog_13_method_3_code 9 = .ok (.iastore, 1) := by decide +kernel
theorem d_Mo_set_10 : decode prog_13_method_3_code 10 = .ok (.lload 4, 2) := by decide +kernel
theorem d_Mo_set_12 : decode prog_13_method_3_code 12 = .ok (.lconst 0, 1) := by decide +kernel
theorem d_Mo_set_13 : decode prog_13_method_3_code 13 = .ok (.lcmp, 1) := by decide +kernel
theorem d_Mo_set_14 : decode prog_13_method_3_code 14 = .ok (.ifCond .le 47, 3) := by decide +kernel
theorem d_Mo_set_17 : decode prog_13_method_3_code 17 = .ok (.aload_n 0, 1) := by decide +kernel
theorem d_Mo_set_18 : decode prog_13_method_3_code 18 = .ok (.getfield 7, 3) := by decide +kernel
theorem d_Mo_set_21 : decode prog_13_method_3_code 21 = .ok (.bipush 100, 2) := by decide +kernel
theorem d_Mo_set_23 : decode prog_13_method_3_code 23 = .ok (.iload_n 1, 1) := by decide +kernel
theorem d_Mo_set_24 : decode prog_13_method_3_code 24 = .ok (.imul, 1) := by decide +kernel
theorem d_Mo_set_25 : decode prog_13_method_3_code 25 = .ok (.aload_n 0, 1) := by decide +kernel
theorem d_Mo_set_26 : decode prog_13_method_3_code 26 = .ok (.getfield 13, 3) := by decide +kernel
theorem d_Mo_set_29 : decode prog_13_method_3_code 29 = .ok (.iload_n 1, 1) := by decide +kernel
theorem d_Mo_set_30 : decode prog_13_method_3_code 30 = .ok (.iaload, 1) := by decide +kernel
theorem d_Mo_set_31 : decode prog_13_method_3_code 31 = .ok (.iadd, 1) := by decide +kernel
theorem d_Mo_set_32 : decode prog_13_method_3_code 32 = .ok (.lload 4, 2) := by decide +kernel
theorem d_Mo_set_34 : decode prog_13_method_3_code 34 = .ok (.ldc2_w 95, 3) := by decide +kernel
theorem d_Mo_set_37 : decode prog_13_method_3_code 37 = .ok (.lrem, 1) := by decide +kernel
theorem d_Mo_set_38 : decode prog_13_method_3_code 38 = .ok (.l2i, 1) := by decide +kernel
theorem d_Mo_set_39 : decode prog_13_method_3_code 39 = .ok (.iastore, 1) := by decide +kernel
theorem d_Mo_set_40 : decode prog_13_method_3_code 40 = .ok (.lload 4, 2) := by decide +kernel
theorem d_Mo_set_42 : decode prog_13_method_3_code 42 = .ok (.ldc2_w 95, 3) := by decide +kernel
theorem d_Mo_set_45 : decode prog_13_method_3_code 45 = .ok (.ldiv, 1) := by decide +kernel
theorem d_Mo_set_46 : decode prog_13_method_3_code 46 = .ok (.lstore 4, 2) := by decide +kernel
theorem d_Mo_set_48 : decode prog_13_method_3_code 48 = .ok (.aload_n 0, 1) := by decide +kernel
theorem d_Mo_set_49 : decode prog_13_method_3_code 49 = .ok (.getfield 13, 3) := by decide +kernel
theorem d_Mo_set_52 : decode prog_13_method_3_code 52 = .ok (.iload_n 1, 1) := by decide +kernel
theorem d_Mo_set_53 : decode prog_13_method_3_code 53 = .ok (.dup2, 1) := by decide +kernel
theorem d_Mo_set_54 : decode prog_13_method_3_code 54 = .ok (.iaload, 1) := by decide +kernel
theorem d_Mo_set_55 : decode prog_13_method_3_code 55 = .ok (.iconst 1, 1) := by decide +kernel
theorem d_Mo_set_56 : decode prog_13_method_3_code 56 = .ok (.iadd, 1) := by decide +kernel
theorem d_Mo_set_57 : decode prog_13_method_3_code 57 = .ok (.iastore, 1) := by decide +kernel
theorem d_Mo_set_58 : decode prog_13_method_3_code 58 = .ok (.goto (-48), 3) := by decide +kernel
theorem d_Mo_set_61 : decode prog_13_method_3_code 61 = .ok (.return_, 1) := by decide +kernel
theorem d_Mo_copy_0 : decode prog_13_method_4_code 0 = .ok (.aload_n 0, 1) := by decide +kernel
theorem d_Mo_copy_1 : decode prog_13_method_4_code 1 = .ok (.getfield 13, 3) := by decide +kernel
theorem d_Mo_copy_4 : decode prog_13_method_4_code 4 = .ok (.iload_n 2, 1) := by decide +kernel
theorem d_Mo_copy_5 : decode prog_13_method_4_code 5 = .ok (.aload_n 0, 1) := by decide +kernel
theorem d_Mo_copy_6 : decode prog_13_method_4_code 6 = .ok (.getfield 13, 3) := by decide +kernel
theorem d_Mo_copy_9 : decode prog_13_method_4_code 9 = .ok (.iload_n 1, 1) := by decide +kernel
theorem d_Mo_copy_10 : decode prog_13_method_4_code 10 = .ok (.iaload, 1) := by decide +kernel
theorem d_Mo_copy_11 : decode prog_13_method_4_code 11 = .ok (.iastore, 1) := by decide +kernel
theorem d_Mo_copy_12 : decode prog_13_method_4_code 12 = .ok (.iconst 0, 1) := by decide +kernel
theorem d_Mo_copy_13 : decode prog_13_method_4_code 13 = .ok (.istore_n 3, 1) := by decide +kernel
theorem d_Mo_copy_14 : decode prog_13_method_4_code 14 = .ok (.iload_n 3, 1) := by decide +kernel
theorem d_Mo_copy_15 : decode prog_13_method_4_code 15 = .ok (.aload_n 0, 1) := by decide +kernel
theorem d_Mo_copy_16 : decode prog_13_method_4_code 16 = .ok (.getfield 13, 3) := by decide +kernel
theorem d_Mo_copy_19 : decode prog_13_method_4_code 19 = .ok (.iload_n 1, 1) := by decide +kernel
theorem d_Mo_copy_20 : decode prog_13_method_4_code 20 = .ok (.iaload, 1) := by decide +kernel
theorem d_Mo_copy_21 : decode prog_13_method_4_code 21 = .ok (.if_icmp .ge 31, 3) := by decide +kernel
theorem d_Mo_copy_24 : decode prog_13_method_4_code 24 = .ok (.aload_n 0, 1) := by decide +kernel
theorem d_Mo_copy_25 : decode prog_13_method_4_code 25 = .ok (.getfield 7, 3) := by decide +kernel
theorem d_Mo_copy_28 : decode prog_13_method_4_code 28 = .ok (.bipush 100, 2) := by decide +kernel
theorem d_Mo_copy_30 : decode prog_13_method_4_code 30 = .ok (.iload_n 2, 1) := by decide +kernel
theorem d_Mo_copy_31 : decode prog_13_method_4_code 31 = .ok (.imul, 1) := by decide +kernel
theorem d_Mo_copy_32 : decode prog_13_method_4_code 32 = .ok (.iload_n 3, 1) := by decide +kernel
theorem d_Mo_copy_33 : decode prog_13_method_4_code 33 = .ok (.iadd, 1) := by decide +kernel
theorem d_Mo_copy_34 : decode prog_13_method_4_code 34 = .ok (.aload_n 0, 1) := by decide +kernel
theorem d_Mo_copy_35 : decode prog_13_method_4_code 35 = .ok (.getfield 7, 3) := by decide +kernel
theorem d_Mo_copy_38 : decode prog_13_method_4_code 38 = .ok (.bipush 100, 2) := by decide +kernel
theorem d_Mo_copy_40 : decode prog_13_method_4_code 40 = .ok (.iload_n 1, 1) := by decide +kernel
theorem d_Mo_copy_41 : decode prog_13_method_4_code 41 = .ok (.imul, 1) := by decide +kernel
theorem d_Mo_copy_42 : decode prog_13_method_4_code 42 = .ok (.iload_n 3, 1) := by decide +kernel
theorem d_Mo_copy_43 : decode prog_13_method_4_code 43 = .ok (.iadd, 1) := by decide +kernel
theorem d_Mo_copy_44 : decode prog_13_method_4_code 44 = .ok (.iaload, 1) := by decide +kernel
theorem d_Mo_copy_45 : decode prog_13_method_4_code 45 = .ok (.iastore, 1) := by decide +kernel
theorem d_Mo_copy_46 : decode prog_13_method_4_code 46 = .ok (.iinc 3 1, 3) := by decide +kernel
theorem d_Mo_copy_49 : decode prog_13_method_4_code 49 = .ok (.goto (-35), 3) := by decide +kernel
theorem d_Mo_copy_52 : decode prog_13_method_4_code 52 = .ok (.return_, 1) := by decide +kernel
theorem d_Mo_part_0 : decode prog_13_method_5_code 0 = .ok (.iload_n 2, 1) := by decide +kernel
theorem d_Mo_part_1 : decode prog_13_method_5_code 1 = .ok (.aload_n 0, 1) := by decide +kernel
theorem d_Mo_part_2 : decode prog_13_method_5_code 2 = .ok (.getfield 13, 3) := by decide +kernel
theorem d_Mo_part_5 : decode prog_13_method_5_code 5 = .ok (.iload_n 1, 1) := by decide +kernel
theorem d_Mo_part_6 : decode prog_13_method_5_code 6 = .ok (.iaload, 1) := by decide +kernel
theorem d_Mo_part_7 : decode prog_13_method_5_code 7 = .ok (.if_icmp .ge 17, 3) := by decide +kernel
theorem d_Mo_part_10 : decode prog_13_method_5_code 10 = .ok (.aload_n 0, 1) := by decide +kernel
theorem d_Mo_part_11 : decode prog_13_method_5_code 11 = .ok (.getfield 7, 3) := by decide +kernel
theorem d_Mo_part_14 : decode prog_13_method_5_code 14 = .ok (.bipush 100, 2) := by decide +kernel
theorem d_Mo_part_16 : decode prog_13_method_5_code 16 = .ok (.iload_n 1, 1) := by decide +kernel
theorem d_Mo_part_17 : decode prog_13_method_5_code 17 = .ok (.imul, 1) := by decide +kernel
theorem d_Mo_part_18 : decode prog_13_method_5_code 18 = .ok (.iload_n 2, 1) := by decide +kernel
theorem d_Mo_part_19 : decode prog_13_method_5_code 19 = .ok (.iadd, 1) := by decide +kernel
theorem d_Mo_part_20 : decode prog_13_method_5_code 20 = .ok (.iaload, 1) := by decide +kernel
theorem d_Mo_part_21 : decode prog_13_method_5_code 21 = .ok (.goto 4, 3) := by decide +kernel
theorem d_Mo_part_24 : decode prog_13_method_5_code 24 = .ok (.iconst 0, 1) := by decide +kernel
theorem d_Mo_part_25 : decode prog_13_method_5_code 25 = .ok (.ireturn, 1) := by decide +kernel
theorem d_Mo_trim_0 : decode prog_13_method_6_code 0 = .ok (.aload_n 0, 1) := by decide +kernel
theorem d_Mo_trim_1 : decode prog_13_method_6_code 1 = .ok (.getfield 13, 3) := by decide +kernel
theorem d_Mo_trim_4 : decode prog_13_method_6_code 4 = .ok (.iload_n 1, 1) := by decide +kernel
theorem d_Mo_trim_5 : decode prog_13_method_6_code 5 = .ok (.iaload, 1) := by decide +kernel
theorem d_Mo_trim_6 : decode prog_13_method_6_code 6 = .ok (.ifCond .le 37, 3) := by decide +kernel
theorem d_Mo_trim_9 : decode prog_13_method_6_code 9 = .ok (.aload_n 0, 1) := by decide +kernel
theorem d_Mo_trim_10 : decode prog_13_method_6_code 10 = .ok (.getfield 7, 3) := by decide +kernel
theorem d_Mo_trim_13 : decode prog_13_method_6_code 13 = .ok (.bipush 100, 2) := by decide +kernel
theorem d_Mo_trim_15 : decode prog_13_method_6_code 15 = .ok (.iload_n 1, 1) := by decide +kernel
theorem d_Mo_trim_16 : decode prog_13_method_6_code 16 = .ok (.imul, 1) := by decide +kernel
theorem d_Mo_trim_17 : decode prog_13_method_6_code 17 = .ok (.aload_n 0, 1) := by decide +kernel
theorem d_Mo_trim_18 : decode prog_13_method_6_code 18 = .ok (.getfield 13, 3) := by decide +kernel
theorem d_Mo_trim_21 : decode prog_13_method_6_code 21 = .ok (.iload_n 1, 1) := by decide +kernel
theorem d_Mo_trim_22 : decode prog_13_method_6_code 22 = .ok (.iaload, 1) := by decide +kernel
theorem d_Mo_trim_23 : decode prog_13_method_6_code 23 = .ok (.iadd, 1) := by decide +kernel
theorem d_Mo_trim_24 : decode prog_13_method_6_code 24 = .ok (.iconst 1, 1) := by decide +kernel
theorem d_Mo_trim_25 : decode prog_13_method_6_code 25 = .ok (.isub, 1) := by decide +kernel
theorem d_Mo_trim_26 : decode prog_13_method_6_code 26 = .ok (.iaload, 1) := by decide +kernel
theorem d_Mo_trim_27 : decode prog_13_method_6_code 27 = .ok (.ifCond .ne 16, 3) := by decide +kernel
theorem d_Mo_trim_30 : decode prog_13_method_6_code 30 = .ok (.aload_n 0, 1) := by decide +kernel
theorem d_Mo_trim_31 : decode prog_13_method_6_code 31 = .ok (.getfield 13, 3) := by decide +kernel
theorem d_Mo_trim_34 : decode prog_13_method_6_code 34 = .ok (.iload_n 1, 1) := by decide +kernel
theorem d_Mo_trim_35 : decode prog_13_method_6_code 35 = .ok (.dup2, 1) := by decide +kernel
theorem d_Mo_trim_36 : decode prog_13_method_6_code 36 = .ok (.iaload, 1) := by decide +kernel
theorem d_Mo_trim_37 : decode prog_13_method_6_code 37 = .ok (.iconst 1, 1) := by decide +kernel
theorem d_Mo_trim_38 : decode prog_13_method_6_code 38 = .ok (.isub, 1) := by decide +kernel
theorem d_Mo_trim_39 : decode prog_13_method_6_code 39 = .ok (.iastore, 1) := by decide +kernel
theorem d_Mo_trim_40 : decode prog_13_method_6_code 40 = .ok (.goto (-40), 3) := by decide +kernel
theorem d_Mo_trim_43 : decode prog_13_method_6_code 43 = .ok (.return_, 1) := by decide +kernel
theorem d_Mo_order_0 : decode prog_13_method_7_code 0 = .ok (.aload_n 0, 1) := by decide +kernel
theorem d_Mo_order_1 : decode prog_13_method_7_code 1 = .ok (.getfield 13, 3) := by decide +kernel
theorem d_Mo_order_4 : decode prog_13_method_7_code 4 = .ok (.iload_n 1, 1) := by decide +kernel
theorem d_Mo_order_5 : decode prog_13_method_7_code 5 = .ok (.iaload, 1) := by decide +kernel
theorem d_Mo_order_6 : decode prog_13_method_7_code 6 = .ok (.aload_n 0, 1) := by decide +kernel
theorem d_Mo_order_7 : decode prog_13_method_7_code 7 = .ok (.getfield 13, 3) := by decide +kernel
theorem d_Mo_order_10 : decode prog_13_method_7_code 10 = .ok (.iload_n 2, 1) := by decide +kernel
theorem d_Mo_order_11 : decode prog_13_method_7_code 11 = .ok (.iaload, 1) := by decide +kernel
theorem d_Mo_order_12 : decode prog_13_method_7_code 12 = .ok (.if_icmp .eq 24, 3) := by decide +kernel
theorem d_Mo_order_15 : decode prog_13_method_7_code 15 = .ok (.aload_n 0, 1) := by decide +kernel
theorem d_Mo_order_16 : decode prog_13_method_7_code 16 = .ok (.getfield 13, 3) := by decide +kernel
theorem d_Mo_order_19 : decode prog_13_method_7_code 19 = .ok (.iload_n 1, 1) := by decide +kernel
theorem d_Mo_order_20 : decode prog_13_method_7_code 20 = .ok (.iaload, 1) := by decide +kernel
theorem d_Mo_order_21 : decode prog_13_method_7_code 21 = .ok (.aload_n 0, 1) := by decide +kernel
theorem d_Mo_order_22 : decode prog_13_method_7_code 22 = .ok (.getfield 13, 3) := by decide +kernel
theorem d_Mo_order_25 : decode prog_13_method_7_code 25 = .ok (.iload_n 2, 1) := by decide +kernel
theorem d_Mo_order_26 : decode prog_13_method_7_code 26 = .ok (.iaload, 1) := by decide +kernel
theorem d_Mo_order_27 : decode prog_13_method_7_code 27 = .ok (.if_icmp .ge 7, 3) := by decide +kernel
theorem d_Mo_order_30 : decode prog_13_method_7_code 30 = .ok (.iconst (-1), 1) := by decide +kernel
theorem d_Mo_order_31 : decode prog_13_method_7_code 31 = .ok (.goto 4, 3) := by decide +kernel
theorem d_Mo_order_34 : decode prog_13_method_7_code 34 = .ok (.iconst 1, 1) := by decide +kernel
theorem d_Mo_order_35 : decode prog_13_method_7_code 35 = .ok (.ireturn, 1) := by decide +kernel
theorem d_Mo_order_36 : decode prog_13_method_7_code 36 = .ok (.aload_n 0, 1) := by decide +kernel
theorem d_Mo_order_37 : decode prog_13_method_7_code 37 = .ok (.getfield 13, 3) := by decide +kernel
theorem d_Mo_order_40 : decode prog_13_method_7_code 40 = .ok (.iload_n 1, 1) := by decide +kernel
theorem d_Mo_order_41 : decode prog_13_method_7_code 41 = .ok (.iaload, 1) := by decide +kernel
theorem d_Mo_order_42 : decode prog_13_method_7_code 42 = .ok (.iconst 1, 1) := by decide +kernel
theorem d_Mo_order_43 : decode prog_13_method_7_code 43 = .ok (.isub, 1) := by decide +kernel
theorem d_Mo_order_44 : decode prog_13_method_7_code 44 = .ok (.istore_n 3, 1) := by decide +kernel
theorem d_Mo_order_45 : decode prog_13_method_7_code 45 = .ok (.iload_n 3, 1) := by decide +kernel
theorem d_Mo_order_46 : decode prog_13_method_7_code 46 = .ok (.ifCond .lt 55, 3) := by decide +kernel
theorem d_Mo_order_49 : decode prog_13_method_7_code 49 = .ok (.aload_n 0, 1) := by decide +kernel
theorem d_Mo_order_50 : decode prog_13_method_7_code 50 = .ok (.getfield 7, 3) := by decide +kernel
theorem d_Mo_order_53 : decode prog_13_method_7_code 53 = .ok (.bipush 100, 2) := by decide +kernel
theorem d_Mo_order_55 : decode prog_13_method_7_code 55 = .ok (.iload_n 1, 1) := by decide +kernel
theorem d_Mo_order_56 : decode prog_13_method_7_code 56 = .ok (.imul, 1) := by decide +kernel
theorem d_Mo_order_57 : decode prog_13_method_7_code 57 = .ok (.iload_n 3, 1) := by decide +kernel
theorem d_Mo_order_58 : decode prog_13_method_7_code 58 = .ok (.iadd, 1) := by decide +kernel
theorem d_Mo_order_59 : decode prog_13_method_7_code 59 = .ok (.iaload, 1) := by decide +kernel
theorem d_Mo_order_60 : decode prog_13_method_7_code 60 = .ok (.istore 4, 2) := by decide +kernel
theorem d_Mo_order_62 : decode prog_13_method_7_code 62 = .ok (.aload_n 0, 1) := by decide +kernel
theorem d_Mo_order_63 : decode prog_13_method_7_code 63 = .ok (.getfield 7, 3) := by decide +kernel
theorem d_Mo_order_66 : decode prog_13_method_7_code 66 = .ok (.bipush 100, 2) := by decide +kernel
theorem d_Mo_order_68 : decode prog_13_method_7_code 68 = .ok (.iload_n 2, 1) := by decide +kernel
theorem d_Mo_order_69 : decode prog_13_method_7_code 69 = .ok (.imul, 1) := by decide +kernel
theorem d_Mo_order_70 : decode prog_13_method_7_code 70 = .ok (.iload_n 3, 1) := by decide +kernel
theorem d_Mo_order_71 : decode prog_13_method_7_code 71 = .ok (.iadd, 1) := by decide +kernel
theorem d_Mo_order_72 : decode prog_13_method_7_code 72 = .ok (.iaload, 1) := by decide +kernel
theorem d_Mo_order_73 : decode prog_13_method_7_code 73 = .ok (.istore 5, 2) := by decide +kernel
theorem d_Mo_order_75 : decode prog_13_method_7_code 75 = .ok (.iload 4, 2) := by decide +kernel
theorem d_Mo_order_77 : decode prog_13_method_7_code 77 = .ok (.iload 5, 2) := by decide +kernel
theorem d_Mo_order_79 : decode prog_13_method_7_code 79 = .ok (.if_icmp .eq 16, 3) := by decide +kernel
theorem d_Mo_order_82 : decode prog_13_method_7_code 82 = .ok (.iload 4, 2) := by decide +kernel
theorem d_Mo_order_84 : decode prog_13_method_7_code 84 = .ok (.iload 5, 2) := by decide +kernel
theorem d_Mo_order_86 : decode prog_13_method_7_code 86 = .ok (.if_icmp .ge 7, 3) := by decide +kernel
theorem d_Mo_order_89 : decode prog_13_method_7_code 89 = .ok (.iconst (-1), 1) := by decide +kernel
theorem d_Mo_order_90 : decode prog_13_method_7_code 90 = .ok (.goto 4, 3) := by decide +kernel
theorem d_Mo_order_93 : decode prog_13_method_7_code 93 = .ok (.iconst 1, 1) := by decide +kernel
theorem d_Mo_order_94 : decode prog_13_method_7_code 94 = .ok (.ireturn, 1) := by decide +kernel
theorem d_Mo_order_95 : decode prog_13_method_7_code 95 = .ok (.iinc 3 (-1), 3) := by decide +kernel
theorem d_Mo_order_98 : decode prog_13_method_7_code 98 = .ok (.goto (-53), 3) := by decide +kernel
theorem d_Mo_order_101 : decode prog_13_method_7_code 101 = .ok (.iconst 0, 1) := by decide +kernel
theorem d_Mo_order_102 : decode prog_13_method_7_code 102 = .ok (.ireturn, 1) := by decide +kernel
theorem d_Mo_add_0 : decode prog_13_method_8_code 0 = .ok (.aload_n 0, 1) := by decide +kernel
theorem d_Mo_add_1 : decode prog_13_method_8_code 1 = .ok (.getfield 13, 3) := by decide +kernel
theorem d_Mo_add_4 : decode prog_13_method_8_code 4 = .ok (.iload_n 1, 1) := by decide +kernel
theorem d_Mo_add_5 : decode prog_13_method_8_code 5 = .ok (.iaload, 1) := by decide +kernel
theorem d_Mo_add_6 : decode prog_13_method_8_code 6 = .ok (.aload_n 0, 1) := by decide +kernel
theorem d_Mo_add_7 : decode prog_13_method_8_code 7 = .ok (.getfield 13, 3) := by decide +kernel
theorem d_Mo_add_10 : decode prog_13_method_8_code 10 = .ok (.iload_n 2, 1) := by decide +kernel
theorem d_Mo_add_11 : decode prog_13_method_8_code 11 = .ok (.iaload, 1) := by decide +kernel
theorem d_Mo_add_12 : decode prog_13_method_8_code 12 = .ok (.if_icmp .le 12, 3) := by decide +kernel
theorem d_Mo_add_15 : decode prog_13_method_8_code 15 = .ok (.aload_n 0, 1) := by decide +kernel
theorem d_Mo_add_16 : decode prog_13_method_8_code 16 = .ok (.getfield 13, 3) := by decide +kernel
theorem d_Mo_add_19 : decode prog_13_method_8_code 19 = .ok (.iload_n 1, 1) := by decide +kernel
theorem d_Mo_add_20 : decode prog_13_method_8_code 20 = .ok (.iaload, 1) := by decide +kernel
theorem d_Mo_add_21 : decode prog_13_method_8_code 21 = .ok (.goto 9, 3) := by decide +kernel
theorem d_Mo_add_24 : decode prog_13_method_8_code 24 = .ok (.aload_n 0, 1) := by decide +kernel
theorem d_Mo_add_25 : decode prog_13_method_8_code 25 = .ok (.getfield 13, 3) := by decide +kernel
theorem d_Mo_add_28 : decode prog_13_method_8_code 28 = .ok (.iload_n 2, 1) := by decide +kernel
theorem d_Mo_add_29 : decode prog_13_method_8_code 29 = .ok (.iaload, 1) := by decide +kernel
theorem d_Mo_add_30 : decode prog_13_method_8_code 30 = .ok (.istore 4, 2) := by decide +kernel
theorem d_Mo_add_32 : decode prog_13_method_8_code 32 = .ok (.iconst 0, 1) := by decide +kernel
theorem d_Mo_add_33 : decode prog_13_method_8_code 33 = .ok (.istore 5, 2) := by decide +kernel
theorem d_Mo_add_35 : decode prog_13_method_8_code 35 = .ok (.iconst 0, 1) := by decide +kernel
theorem d_Mo_add_36 : decode prog_13_method_8_code 36 = .ok (.istore 6, 2) := by decide +kernel
theorem d_Mo_add_38 : decode prog_13_method_8_code 38 = .ok (.iload 6, 2) := by decide +kernel
theorem d_Mo_add_40 : decode prog_13_method_8_code 40 = .ok (.iload 4, 2) := by decide +kernel
theorem d_Mo_add_42 : decode prog_13_method_8_code 42 = .ok (.if_icmp .ge 53, 3) := by decide +kernel
theorem d_Mo_add_45 : decode prog_13_method_8_code 45 = .ok (.aload_n 0, 1) := by decide +kernel
theorem d_Mo_add_46 : decode prog_13_method_8_code 46 = .ok (.iload_n 1, 1) := by decide +kernel
theorem d_Mo_add_47 : decode prog_13_method_8_code 47 = .ok (.iload 6, 2) := by decide +kernel
theorem d_Mo_add_49 : decode prog_13_method_8_code 49 = .ok (.invokevirtual 97, 3) := by decide +kernel
theorem d_Mo_add_52 : decode prog_13_method_8_code 52 = .ok (.aload_n 0, 1) := by decide +kernel
theorem d_Mo_add_53 : decode prog_13_method_8_code 53 = .ok (.iload_n 2, 1) := by decide +kernel
theorem d_Mo_add_54 : decode prog_13_method_8_code 54 = .ok (.iload 6, 2) := by decide +kernel
theorem d_Mo_add_56 : decode prog_13_method_8_code 56 = .ok (.invokevirtual 97, 3) := by decide +kernel
theorem d_Mo_add_59 : decode prog_13_method_8_code 59 = .ok (.iadd, 1) := by decide +kernel
theorem d_Mo_add_60 : decode prog_13_method_8_code 60 = .ok (.iload 5, 2) := by decide +kernel
theorem d_Mo_add_62 : decode prog_13_method_8_code 62 = .ok (.iadd, 1) := by decide +kernel
theorem d_Mo_add_63 : decode prog_13_method_8_code 63 = .ok (.istore 7, 2) := by decide +kernel
theorem d_Mo_add_65 : decode prog_13_method_8_code 65 = .ok (.iload 7, 2) := by decide +kernel
theorem d_Mo_add_67 : decode prog_13_method_8_code 67 = .ok (.ldc 101, 2) := by decide +kernel
theorem d_Mo_add_69 : decode prog_13_method_8_code 69 = .ok (.idiv, 1) := by decide +kernel
theorem d_Mo_add_70 : decode prog_13_method_8_code 70 = .ok (.istore 5, 2) := by decide +kernel
theorem d_Mo_add_72 : decode prog_13_method_8_code 72 = .ok (.aload_n 0, 1) := by decide +kernel
theorem d_Mo_add_73 : decode prog_13_method_8_code 73 = .ok (.getfield 7, 3) := by decide +kernel
theorem d_Mo_add_76 : decode prog_13_method_8_code 76 = .ok (.bipush 100, 2) := by decide +kernel
theorem d_Mo_add_78 : decode prog_13_method_8_code 78 = .ok (.iload_n 3, 1) := by decide +kernel
theorem d_Mo_add_79 : decode prog_13_method_8_code 79 = .ok (.imul, 1) := by decide +kernel
theorem d_Mo_add_80 : decode prog_13_method_8_code 80 = .ok (.iload 6, 2) := by decide +kernel
theorem d_Mo_add_82 : decode prog_13_method_8_code 82 = .ok (.iadd, 1) := by decide +kernel
theorem d_Mo_add_83 : decode prog_13_method_8_code 83 = .ok (.iload 7, 2) := by decide +kernel
theorem d_Mo_add_85 : decode prog_13_method_8_code 85 = .ok (.ldc 101, 2) := by decide +kernel
theorem d_Mo_add_87 : decode prog_13_method_8_code 87 = .ok (.irem, 1) := by decide +kernel
theorem d_Mo_add_88 : decode prog_13_method_8_code 88 = .ok (.iastore, 1) := by decide +kernel
theorem d_Mo_add_89 : decode prog_13_method_8_code 89 = .ok (.iinc 6 1, 3) := by decide +kernel
theorem d_Mo_add_92 : decode prog_13_method_8_code 92 = .ok (.goto (-54), 3) := by decide +kernel
theorem d_Mo_add_95 : decode prog_13_method_8_code 95 = .ok (.aload_n 0, 1) := by decide +kernel
theorem d_Mo_add_96 : decode prog_13_method_8_code 96 = .ok (.getfield 13, 3) := by decide +kernel
theorem d_Mo_add_99 : decode prog_13_method_8_code 99 = .ok (.iload_n 3, 1) := by decide +kernel
theorem d_Mo_add_100 : decode prog_13_method_8_code 100 = .ok (.iload 4, 2) := by decide +kernel
theorem d_Mo_add_102 : decode prog_13_method_8_code 102 = .ok (.iastore, 1) := by decide +kernel
theorem d_Mo_add_103 : decode prog_13_method_8_code 103 = .ok (.iload 5, 2) := by decide +kernel
theorem d_Mo_add_105 : decode prog_13_method_8_code 105 = .ok (.ifCond .le 27, 3) := by decide +kernel
theorem d_Mo_add_108 : decode prog_13_method_8_code 108 = .ok (.aload_n 0, 1) := by decide +kernel
theorem d_Mo_add_109 : decode prog_13_method_8_code 109 = .ok (.getfield 7, 3) := by decide +kernel
theorem d_Mo_add_112 : decode prog_13_method_8_code 112 = .ok (.bipush 100, 2) := by decide +kernel
theorem d_Mo_add_114 : decode prog_13_method_8_code 114 = .ok (.iload_n 3, 1) := by decide +kernel
theorem d_Mo_add_115 : decode prog_13_method_8_code 115 = .ok (.imul, 1) := by decide +kernel
theorem d_Mo_add_116 : decode prog_13_method_8_code 116 = .ok (.iload 4, 2) := by decide +kernel
theorem d_Mo_add_118 : decode prog_13_method_8_code 118 = .ok (.iadd, 1) := by decide +kernel
theorem d_Mo_add_119 : decode prog_13_method_8_code 119 = .ok (.iload 5, 2) := by decide +kernel
theorem d_Mo_add_121 : decode prog_13_method_8_code 121 = .ok (.iastore, 1) := by decide +kernel
theorem d_Mo_add_122 : decode prog_13_method_8_code 122 = .ok (.aload_n 0, 1) := by decide +kernel
theorem d_Mo_add_123 : decode prog_13_method_8_code 123 = .ok (.getfield 13, 3) := by decide +kernel
theorem d_Mo_add_126 : decode prog_13_method_8_code 126 = .ok (.iload_n 3, 1) := by decide +kernel
theorem d_Mo_add_127 : decode prog_13_method_8_code 127 = .ok (.dup2, 1) := by decide +kernel
theorem d_Mo_add_128 : decode prog_13_method_8_code 128 = .ok (.iaload, 1) := by decide +kernel
theorem d_Mo_add_129 : decode prog_13_method_8_code 129 = .ok (.iconst 1, 1) := by decide +kernel
theorem d_Mo_add_130 : decode prog_13_method_8_code 130 = .ok (.iadd, 1) := by decide +kernel
theorem d_Mo_add_131 : decode prog_13_method_8_code 131 = .ok (.iastore, 1) := by decide +kernel
theorem d_Mo_add_132 : decode prog_13_method_8_code 132 = .ok (.return_, 1) := by decide +kernel
theorem d_Mo_subtract_0 : decode prog_13_method_9_code 0 = .ok (.aload_n 0, 1) := by decide +kernel
theorem d_Mo_subtract_1 : decode prog_13_method_9_code 1 = .ok (.getfield 13, 3) := by decide +kernel
theorem d_Mo_subtract_4 : decode prog_13_method_9_code 4 = .ok (.iload_n 1, 1) := by decide +kernel
theorem d_Mo_subtract_5 : decode prog_13_method_9_code 5 = .ok (.iaload, 1) := by decide +kernel
theorem d_Mo_subtract_6 : decode prog_13_method_9_code 6 = .ok (.istore 4, 2) := by decide +kernel
theorem d_Mo_subtract_8 : decode prog_13_method_9_code 8 = .ok (.iconst 0, 1) := by decide +kernel
theorem d_Mo_subtract_9 : decode prog_13_method_9_code 9 = .ok (.istore 5, 2) := by decide +kernel
theorem d_Mo_subtract_11 : decode prog_13_method_9_code 11 = .ok (.iconst 0, 1) := by decide +kernel
theorem d_Mo_subtract_12 : decode prog_13_method_9_code 12 = .ok (.istore 6, 2) := by decide +kernel
theorem d_Mo_subtract_14 : decode prog_13_method_9_code 14 = .ok (.iload 6, 2) := by decide +kernel
theorem d_Mo_subtract_16 : decode prog_13_method_9_code 16 = .ok (.iload 4, 2) := by decide +kernel
theorem d_Mo_subtract_18 : decode prog_13_method_9_code 18 = .ok (.if_icmp .ge 68, 3) := by decide +kernel
theorem d_Mo_subtract_21 : decode prog_13_method_9_code 21 = .ok (.aload_n 0, 1) := by decide +kernel
theorem d_Mo_subtract_22 : decode prog_13_method_9_code 22 = .ok (.iload_n 1, 1) := by decide +kernel
theorem d_Mo_subtract_23 : decode prog_13_method_9_code 23 = .ok (.iload 6, 2) := by decide +kernel
theorem d_Mo_subtract_25 : decode prog_13_method_9_code 25 = .ok (.invokevirtual 97, 3) := by decide +kernel
theorem d_Mo_subtract_28 : decode prog_13_method_9_code 28 = .ok (.aload_n 0, 1) := by decide +kernel
theorem d_Mo_subtract_29 : decode prog_13_method_9_code 29 = .ok (.iload_n 2, 1) := by decide +kernel
theorem d_Mo_subtract_30 : decode prog_13_method_9_code 30 = .ok (.iload 6, 2) := by decide +kernel
theorem d_Mo_subtract_32 : decode prog_13_method_9_code 32 = .ok (.invokevirtual 97, 3) := by decide +kernel
theorem d_Mo_subtract_35 : decode prog_13_method_9_code 35 = .ok (.isub, 1) := by decide +kernel
theorem d_Mo_subtract_36 : decode prog_13_method_9_code 36 = .ok (.iload 5, 2) := by decide +kernel
theorem d_Mo_subtract_38 : decode prog_13_method_9_code 38 = .ok (.isub, 1) := by decide +kernel
theorem d_Mo_subtract_39 : decode prog_13_method_9_code 39 = .ok (.istore 7, 2) := by decide +kernel
theorem d_Mo_subtract_41 : decode prog_13_method_9_code 41 = .ok (.iload 7, 2) := by decide +kernel
theorem d_Mo_subtract_43 : decode prog_13_method_9_code 43 = .ok (.ifCond .ge 7, 3) := by decide +kernel
theorem d_Mo_subtract_46 : decode prog_13_method_9_code 46 = .ok (.iconst 1, 1) := by decide +kernel
theorem d_Mo_subtract_47 : decode prog_13_method_9_code 47 = .ok (.goto 4, 3) := by decide +kernel
theorem d_Mo_subtract_50 : decode prog_13_method_9_code 50 = .ok (.iconst 0, 1) := by decide +kernel
theorem d_Mo_subtract_51 : decode prog_13_method_9_code 51 = .ok (.istore 5, 2) := by decide +kernel
theorem d_Mo_subtract_53 : decode prog_13_method_9_code 53 = .ok (.aload_n 0, 1) := by decide +kernel
theorem d_Mo_subtract_54 : decode prog_13_method_9_code 54 = .ok (.getfield 7, 3) := by decide +kernel
theorem d_Mo_subtract_57 : decode prog_13_method_9_code 57 = .ok (.bipush 100, 2) := by decide +kernel
theorem d_Mo_subtract_59 : decode prog_13_method_9_code 59 = .ok (.iload_n 3, 1) := by decide +kernel
theorem d_Mo_subtract_60 : decode prog_13_method_9_code 60 = .ok (.imul, 1) := by decide +kernel
theorem d_Mo_subtract_61 : decode prog_13_method_9_code 61 = .ok (.iload 6, 2) := by decide +kernel
theorem d_Mo_subtract_63 : decode prog_13_method_9_code 63 = .ok (.iadd, 1) := by decide +kernel
theorem d_Mo_subtract_64 : decode prog_13_method_9_code 64 = .ok (.iload 7, 2) := by decide +kernel
theorem d_Mo_subtract_66 : decode prog_13_method_9_code 66 = .ok (.ifCond .ge 11, 3) := by decide +kernel
theorem d_Mo_subtract_69 : decode prog_13_method_9_code 69 = .ok (.iload 7, 2) := by decide +kernel
theorem d_Mo_subtract_71 : decode prog_13_method_9_code 71 = .ok (.ldc 101, 2) := by decide +kernel
theorem d_Mo_subtract_73 : decode prog_13_method_9_code 73 = .ok (.iadd, 1) := by decide +kernel
theorem d_Mo_subtract_74 : decode prog_13_method_9_code 74 = .ok (.goto 5, 3) := by decide +kernel
theorem d_Mo_subtract_77 : decode prog_13_method_9_code 77 = .ok (.iload 7, 2) := by decide +kernel
theorem d_Mo_subtract_79 : decode prog_13_method_9_code 79 = .ok (.iastore, 1) := by decide +kernel
theorem d_Mo_subtract_80 : decode prog_13_method_9_code 80 = .ok (.iinc 6 1, 3) := by decide +kernel
theorem d_Mo_subtract_83 : decode prog_13_method_9_code 83 = .ok (.goto (-69), 3) := by decide +kernel
theorem d_Mo_subtract_86 : decode prog_13_method_9_code 86 = .ok (.aload_n 0, 1) := by decide +kernel
theorem d_Mo_subtract_87 : decode prog_13_method_9_code 87 = .ok (.getfield 13, 3) := by decide +kernel
theorem d_Mo_subtract_90 : decode prog_13_method_9_code 90 = .ok (.iload_n 3, 1) := by decide +kernel
theorem d_Mo_subtract_91 : decode prog_13_method_9_code 91 = .ok (.iload 4, 2) := by decide +kernel
theorem d_Mo_subtract_93 : decode prog_13_method_9_code 93 = .ok (.iastore, 1) := by decide +kernel
theorem d_Mo_subtract_94 : decode prog_13_method_9_code 94 = .ok (.aload_n 0, 1) := by decide +kernel
theorem d_Mo_subtract_95 : decode prog_13_method_9_code 95 = .ok (.iload_n 3, 1) := by decide +kernel
theorem d_Mo_subtract_96 : decode prog_13_method_9_code 96 = .ok (.invokevirtual 102, 3) := by decide +kernel
theorem d_Mo_subtract_99 : decode prog_13_method_9_code 99 = .ok (.return_, 1) := by decide +kernel
theorem d_Mo_multiply_0 : decode prog_13_method_10_code 0 = .ok (.aload_n 0, 1) := by decide +kernel
theorem d_Mo_multiply_1 : decode prog_13_method_10_code 1 = .ok (.getfield 13, 3) := by decide +kernel
theorem d_Mo_multiply_4 : decode prog_13_method_10_code 4 = .ok (.iload_n 1, 1) := by decide +kernel
theorem d_Mo_multiply_5 : decode prog_13_method_10_code 5 = .ok (.iaload, 1) := by decide +kernel
theorem d_Mo_multiply_6 : decode prog_13_method_10_code 6 = .ok (.aload_n 0, 1) := by decide +kernel
theorem d_Mo_multiply_7 : decode prog_13_method_10_code 7 = .ok (.getfield 13, 3) := by decide +kernel
theorem d_Mo_multiply_10 : decode prog_13_method_10_code 10 = .ok (.iload_n 2, 1) := by decide +kernel
theorem d_Mo_multiply_11 : decode prog_13_method_10_code 11 = .ok (.iaload, 1) := by decide +kernel
theorem d_Mo_multiply_12 : decode prog_13_method_10_code 12 = .ok (.iadd, 1) := by decide +kernel
theorem d_Mo_multiply_13 : decode prog_13_method_10_code 13 = .ok (.istore 4, 2) := by decide +kernel
theorem d_Mo_multiply_15 : decode prog_13_method_10_code 15 = .ok (.iconst 0, 1) := by decide +kernel
theorem d_Mo_multiply_16 : decode prog_13_method_10_code 16 = .ok (.istore 5, 2) := by decide +kernel
theorem d_Mo_multiply_18 : decode prog_13_method_10_code 18 = .ok (.iload 5, 2) := by decide +kernel
theorem d_Mo_multiply_20 : decode prog_13_method_10_code 20 = .ok (.iload 4, 2) := by decide +kernel
theorem d_Mo_multiply_22 : decode prog_13_method_10_code 22 = .ok (.if_icmp .ge 22, 3) := by decide +kernel
theorem d_Mo_multiply_25 : decode prog_13_method_10_code 25 = .ok (.aload_n 0, 1) := by decide +kernel
theorem d_Mo_multiply_26 : decode prog_13_method_10_code 26 = .ok (.getfield 7, 3) := by decide +kernel
theorem d_Mo_multiply_29 : decode prog_13_method_10_code 29 = .ok (.bipush 100, 2) := by decide +kernel
theorem d_Mo_multiply_31 : decode prog_13_method_10_code 31 = .ok (.iload_n 3, 1) := by decide +kernel
theorem d_Mo_multiply_32 : decode prog_13_method_10_code 32 = .ok (.imul, 1) := by decide +kernel
theorem d_Mo_multiply_33 : decode prog_13_method_10_code 33 = .ok (.iload 5, 2) := by decide +kernel
theorem d_Mo_multiply_35 : decode prog_13_method_10_code 35 = .ok (.iadd, 1) := by decide +kernel
theorem d_Mo_multiply_36 : decode prog_13_method_10_code 36 = .ok (.iconst 0, 1) := by decide +kernel
theorem d_Mo_multiply_37 : decode prog_13_method_10_code 37 = .ok (.iastore, 1) := by decide +kernel
theorem d_Mo_multiply_38 : decode prog_13_method_10_code 38 = .ok (.iinc 5 1, 3) := by decide +kernel
theorem d_Mo_multiply_41 : decode prog_13_method_10_code 41 = .ok (.goto (-23), 3) := by decide +kernel
theorem d_Mo_multiply_44 : decode prog_13_method_10_code 44 = .ok (.aload_n 0, 1) := by decide +kernel
theorem d_Mo_multiply_45 : decode prog_13_method_10_code 45 = .ok (.getfield 13, 3) := by decide +kernel
theorem d_Mo_multiply_48 : decode prog_13_method_10_code 48 = .ok (.iload_n 3, 1) := by decide +kernel
theorem d_Mo_multiply_49 : decode prog_13_method_10_code 49 = .ok (.iload 4, 2) := by decide +kernel
theorem d_Mo_multiply_51 : decode prog_13_method_10_code 51 = .ok (.iastore, 1) := by decide +kernel
theorem d_Mo_multiply_52 : decode prog_13_method_10_code 52 = .ok (.iconst 0, 1) := by decide +kernel
theorem d_Mo_multiply_53 : decode prog_13_method_10_code 53 = .ok (.istore 5, 2) := by decide +kernel
theorem d_Mo_multiply_55 : decode prog_13_method_10_code 55 = .ok (.iload 5, 2) := by decide +kernel
theorem d_Mo_multiply_57 : decode prog_13_method_10_code 57 = .ok (.aload_n 0, 1) := by decide +kernel
theorem d_Mo_multiply_58 : decode prog_13_method_10_code 58 = .ok (.getfield 13, 3) := by decide +kernel
theorem d_Mo_multiply_61 : decode prog_13_method_10_code 61 = .ok (.iload_n 1, 1) := by decide +kernel
theorem d_Mo_multiply_62 : decode prog_13_method_10_code 62 = .ok (.iaload, 1) := by decide +kernel
theorem d_Mo_multiply_63 : decode prog_13_method_10_code 63 = .ok (.if_icmp .ge 137, 3) := by decide +kernel
theorem d_Mo_multiply_66 : decode prog_13_method_10_code 66 = .ok (.lconst 0, 1) := by decide +kernel
theorem d_Mo_multiply_67 : decode prog_13_method_10_code 67 = .ok (.lstore 6, 2) := by decide +kernel
theorem d_Mo_multiply_69 : decode prog_13_method_10_code 69 = .ok (.aload_n 0, 1) := by decide +kernel
theorem d_Mo_multiply_70 : decode prog_13_method_10_code 70 = .ok (.getfield 7, 3) := by decide +kernel
theorem d_Mo_multiply_73 : decode prog_13_method_10_code 73 = .ok (.bipush 100, 2) := by decide +kernel
theorem d_Mo_multiply_75 : decode prog_13_method_10_code 75 = .ok (.iload_n 1, 1) := by decide +kernel
theorem d_Mo_multiply_76 : decode prog_13_method_10_code 76 = .ok (.imul, 1) := by decide +kernel
theorem d_Mo_multiply_77 : decode prog_13_method_10_code 77 = .ok (.iload 5, 2) := by decide +kernel
theorem d_Mo_multiply_79 : decode prog_13_method_10_code 79 = .ok (.iadd, 1) := by decide +kernel
theorem d_Mo_multiply_80 : decode prog_13_method_10_code 80 = .ok (.iaload, 1) := by decide +kernel
theorem d_Mo_multiply_81 : decode prog_13_method_10_code 81 = .ok (.i2l, 1) := by decide +kernel
theorem d_Mo_multiply_82 : decode prog_13_method_10_code 82 = .ok (.lstore 8, 2) := by decide +kernel
theorem d_Mo_multiply_84 : decode prog_13_method_10_code 84 = .ok (.iconst 0, 1) := by decide +kernel
theorem d_Mo_multiply_85 : decode prog_13_method_10_code 85 = .ok (.istore 10, 2) := by decide +kernel
theorem d_Mo_multiply_87 : decode prog_13_method_10_code 87 = .ok (.iload 10, 2) := by decide +kernel
theorem d_Mo_multiply_89 : decode prog_13_method_10_code 89 = .ok (.aload_n 0, 1) := by decide +kernel
theorem d_Mo_multiply_90 : decode prog_13_method_10_code 90 = .ok (.getfield 13, 3) := by decide +kernel
theorem d_Mo_multiply_93 : decode prog_13_method_10_code 93 = .ok (.iload_n 2, 1) := by decide +kernel
theorem d_Mo_multiply_94 : decode prog_13_method_10_code 94 = .ok (.iaload, 1) := by decide +kernel
theorem d_Mo_multiply_95 : decode prog_13_method_10_code 95 = .ok (.if_icmp .ge 77, 3) := by decide +kernel
theorem d_Mo_multiply_98 : decode prog_13_method_10_code 98 = .ok (.lload 8, 2) := by decide +kernel
theorem d_Mo_multiply_100 : decode prog_13_method_10_code 100 = .ok (.aload_n 0, 1) := by decide +kernel
theorem d_Mo_multiply_101 : decode prog_13_method_10_code 101 = .ok (.getfield 7, 3) := by decide +kernel
theorem d_Mo_multiply_104 : decode prog_13_method_10_code 104 = .ok (.bipush 100, 2) := by decide +kernel
theorem d_Mo_multiply_106 : decode prog_13_method_10_code 106 = .ok (.iload_n 2, 1) := by decide +kernel
theorem d_Mo_multiply_107 : decode prog_13_method_10_code 107 = .ok (.imul, 1) := by decide +kernel
theorem d_Mo_multiply_108 : decode prog_13_method_10_code 108 = .ok (.iload 10, 2) := by decide +kernel
theorem d_Mo_multiply_110 : decode prog_13_method_10_code 110 = .ok (.iadd, 1) := by decide +kernel
theorem d_Mo_multiply_111 : decode prog_13_method_10_code 111 = .ok (.iaload, 1) := by decide +kernel
theorem d_Mo_multiply_112 : decode prog_13_method_10_code 112 = .ok (.i2l, 1) := by decide +kernel
theorem d_Mo_multiply_113 : decode prog_13_method_10_code 113 = .ok (.lmul, 1) := by decide +kernel
theorem d_Mo_multiply_114 : decode prog_13_method_10_code 114 = .ok (.aload_n 0, 1) := by decide +kernel
theorem d_Mo_multiply_115 : decode prog_13_method_10_code 115 = .ok (.getfield 7, 3) := by decide +kernel
theorem d_Mo_multiply_118 : decode prog_13_method_10_code 118 = .ok (.bipush 100, 2) := by decide +kernel
theorem d_Mo_multiply_120 : decode prog_13_method_10_code 120 = .ok (.iload_n 3, 1) := by decide +kernel
theorem d_Mo_multiply_121 : decode prog_13_method_10_code 121 = .ok (.imul, 1) := by decide +kernel
theorem d_Mo_multiply_122 : decode prog_13_method_10_code 122 = .ok (.iload 5, 2) := by decide +kernel
theorem d_Mo_multiply_124 : decode prog_13_method_10_code 124 = .ok (.iadd, 1) := by decide +kernel
theorem d_Mo_multiply_125 : decode prog_13_method_10_code 125 = .ok (.iload 10, 2) := by decide +kernel
theorem d_Mo_multiply_127 : decode prog_13_method_10_code 127 = .ok (.iadd, 1) := by decide +kernel
theorem d_Mo_multiply_128 : decode prog_13_method_10_code 128 = .ok (.iaload, 1) := by decide +kernel
theorem d_Mo_multiply_129 : decode prog_13_method_10_code 129 = .ok (.i2l, 1) := by decide +kernel
theorem d_Mo_multiply_130 : decode prog_13_method_10_code 130 = .ok (.ladd, 1) := by decide +kernel
theorem d_Mo_multiply_131 : decode prog_13_method_10_code 131 = .ok (.lload 6, 2) := by decide +kernel
theorem d_Mo_multiply_133 : decode prog_13_method_10_code 133 = .ok (.ladd, 1) := by decide +kernel
theorem d_Mo_multiply_134 : decode prog_13_method_10_code 134 = .ok (.lstore 11, 2) := by decide +kernel
theorem d_Mo_multiply_136 : decode prog_13_method_10_code 136 = .ok (.aload_n 0, 1) := by decide +kernel
theorem d_Mo_multiply_137 : decode prog_13_method_10_code 137 = .ok (.getfield 7, 3) := by decide +kernel
theorem d_Mo_multiply_140 : decode prog_13_method_10_code 140 = .ok (.bipush 100, 2) := by decide +kernel
theorem d_Mo_multiply_142 : decode prog_13_method_10_code 142 = .ok (.iload_n 3, 1) := by decide +kernel
theorem d_Mo_multiply_143 : decode prog_13_method_10_code 143 = .ok (.imul, 1) := by decide +kernel
theorem d_Mo_multiply_144 : decode prog_13_method_10_code 144 = .ok (.iload 5, 2) := by decide +kernel
theorem d_Mo_multiply_146 : decode prog_13_method_10_code 146 = .ok (.iadd, 1) := by decide +kernel
theorem d_Mo_multiply_147 : decode prog_13_method_10_code 147 = .ok (.iload 10, 2) := by decide +kernel
theorem d_Mo_multiply_149 : decode prog_13_method_10_code 149 = .ok (.iadd, 1) := by decide +kernel
theorem d_Mo_multiply_150 : decode prog_13_method_10_code 150 = .ok (.lload 11, 2) := by decide +kernel
theorem d_Mo_multiply_152 : decode prog_13_method_10_code 152 = .ok (.ldc2_w 95, 3) := by decide +kernel
theorem d_Mo_multiply_155 : decode prog_13_method_10_code 155 = .ok (.lrem, 1) := by decide +kernel
theorem d_Mo_multiply_156 : decode prog_13_method_10_code 156 = .ok (.l2i, 1) := by decide +kernel
theorem d_Mo_multiply_157 : decode prog_13_method_10_code 157 = .ok (.iastore, 1) := by decide +kernel
theorem d_Mo_multiply_158 : decode prog_13_method_10_code 158 = .ok (.lload 11, 2) := by decide +kernel
theorem d_Mo_multiply_160 : decode prog_13_method_10_code 160 = .ok (.ldc2_w 95, 3) := by decide +kernel
theorem d_Mo_multiply_163 : decode prog_13_method_10_code 163 = .ok (.ldiv, 1) := by decide +kernel
theorem d_Mo_multiply_164 : decode prog_13_method_10_code 164 = .ok (.lstore 6, 2) := by decide +kernel
theorem d_Mo_multiply_166 : decode prog_13_method_10_code 166 = .ok (.iinc 10 1, 3) := by decide +kernel
theorem d_Mo_multiply_169 : decode prog_13_method_10_code 169 = .ok (.goto (-82), 3) := by decide +kernel
theorem d_Mo_multiply_172 : decode prog_13_method_10_code 172 = .ok (.aload_n 0, 1) := by decide +kernel
theorem d_Mo_multiply_173 : decode prog_13_method_10_code 173 = .ok (.getfield 7, 3) := by decide +kernel
theorem d_Mo_multiply_176 : decode prog_13_method_10_code 176 = .ok (.bipush 100, 2) := by decide +kernel
theorem d_Mo_multiply_178 : decode prog_13_method_10_code 178 = .ok (.iload_n 3, 1) := by decide +kernel
theorem d_Mo_multiply_179 : decode prog_13_method_10_code 179 = .ok (.imul, 1) := by decide +kernel
theorem d_Mo_multiply_180 : decode prog_13_method_10_code 180 = .ok (.iload 5, 2) := by decide +kernel
theorem d_Mo_multiply_182 : decode prog_13_method_10_code 182 = .ok (.iadd, 1) := by decide +kernel
theorem d_Mo_multiply_183 : decode prog_13_method_10_code 183 = .ok (.aload_n 0, 1) := by decide +kernel
theorem d_Mo_multiply_184 : decode prog_13_method_10_code 184 = .ok (.getfield 13, 3) := by decide +kernel
theorem d_Mo_multiply_187 : decode prog_13_method_10_code 187 = .ok (.iload_n 2, 1) := by decide +kernel
theorem d_Mo_multiply_188 : decode prog_13_method_10_code 188 = .ok (.iaload, 1) := by decide +kernel
theorem d_Mo_multiply_189 : decode prog_13_method_10_code 189 = .ok (.iadd, 1) := by decide +kernel
theorem d_Mo_multiply_190 : decode prog_13_method_10_code 190 = .ok (.lload 6, 2) := by decide +kernel
theorem d_Mo_multiply_192 : decode prog_13_method_10_code 192 = .ok (.l2i, 1) := by decide +kernel
theorem d_Mo_multiply_193 : decode prog_13_method_10_code 193 = .ok (.iastore, 1) := by decide +kernel
theorem d_Mo_multiply_194 : decode prog_13_method_10_code 194 = .ok (.iinc 5 1, 3) := by decide +kernel
theorem d_Mo_multiply_197 : decode prog_13_method_10_code 197 = .ok (.goto (-142), 3) := by decide +kernel
theorem d_Mo_multiply_200 : decode prog_13_method_10_code 200 = .ok (.aload_n 0, 1) := by decide +kernel
theorem d_Mo_multiply_201 : decode prog_13_method_10_code 201 = .ok (.iload_n 3, 1) := by decide +kernel
theorem d_Mo_multiply_202 : decode prog_13_method_10_code 202 = .ok (.invokevirtual 102, 3) := by decide +kernel
theorem d_Mo_multiply_205 : decode prog_13_method_10_code 205 = .ok (.return_, 1) := by decide +kernel
theorem d_Mo_multiplyBy_0 : decode prog_13_method_11_code 0 = .ok (.lconst 0, 1) := by decide +kernel
theorem d_Mo_multiplyBy_1 : decode prog_13_method_11_code 1 = .ok (.lstore_n 3, 1) := by decide +kernel
theorem d_Mo_multiplyBy_2 : decode prog_13_method_11_code 2 = .ok (.iconst 0, 1) := by decide +kernel
theorem d_Mo_multiplyBy_3 : decode prog_13_method_11_code 3 = .ok (.istore 5, 2) := by decide +kernel
theorem d_Mo_multiplyBy_5 : decode prog_13_method_11_code 5 = .ok (.iload 5, 2) := by decide +kernel
theorem d_Mo_multiplyBy_7 : decode prog_13_method_11_code 7 = .ok (.aload_n 0, 1) := by decide +kernel
theorem d_Mo_multiplyBy_8 : decode prog_13_method_11_code 8 = .ok (.getfield 13, 3) := by decide +kernel
theorem d_Mo_multiplyBy_11 : decode prog_13_method_11_code 11 = .ok (.iload_n 1, 1) := by decide +kernel
theorem d_Mo_multiplyBy_12 : decode prog_13_method_11_code 12 = .ok (.iaload, 1) := by decide +kernel
theorem d_Mo_multiplyBy_13 : decode prog_13_method_11_code 13 = .ok (.if_icmp .ge 55, 3) := by decide +kernel
theorem d_Mo_multiplyBy_16 : decode prog_13_method_11_code 16 = .ok (.aload_n 0, 1) := by decide +kernel
theorem d_Mo_multiplyBy_17 : decode prog_13_method_11_code 17 = .ok (.getfield 7, 3) := by decide +kernel
theorem d_Mo_multiplyBy_20 : decode prog_13_method_11_code 20 = .ok (.bipush 100, 2) := by decide +kernel
theorem d_Mo_multiplyBy_22 : decode prog_13_method_11_code 22 = .ok (.iload_n 1, 1) := by decide +kernel
theorem d_Mo_multiplyBy_23 : decode prog_13_method_11_code 23 = .ok (.imul, 1) := by decide +kernel
theorem d_Mo_multiplyBy_24 : decode prog_13_method_11_code 24 = .ok (.iload 5, 2) := by decide +kernel
theorem d_Mo_multiplyBy_26 : decode prog_13_method_11_code 26 = .ok (.iadd, 1) := by decide +kernel
theorem d_Mo_multiplyBy_27 : decode prog_13_method_11_code 27 = .ok (.iaload, 1) := by decide +kernel
theorem d_Mo_multiplyBy_28 : decode prog_13_method_11_code 28 = .ok (.i2l, 1) := by decide +kernel
theorem d_Mo_multiplyBy_29 : decode prog_13_method_11_code 29 = .ok (.iload_n 2, 1) := by decide +kernel
theorem d_Mo_multiplyBy_30 : decode prog_13_method_11_code 30 = .ok (.i2l, 1) := by decide +kernel
theorem d_Mo_multiplyBy_31 : decode prog_13_method_11_code 31 = .ok (.lmul, 1) := by decide +kernel
theorem d_Mo_multiplyBy_32 : decode prog_13_method_11_code 32 = .ok (.lload_n 3, 1) := by decide +kernel
theorem d_Mo_multiplyBy_33 : decode prog_13_method_11_code 33 = .ok (.ladd, 1) := by decide +kernel
theorem d_Mo_multiplyBy_34 : decode prog_13_method_11_code 34 = .ok (.lstore 6, 2) := by decide +kernel
theorem d_Mo_multiplyBy_36 : decode prog_13_method_11_code 36 = .ok (.aload_n 0, 1) := by decide +kernel
theorem d_Mo_multiplyBy_37 : decode prog_13_method_11_code 37 = .ok (.getfield 7, 3) := by decide +kernel
theorem d_Mo_multiplyBy_40 : decode prog_13_method_11_code 40 = .ok (.bipush 100, 2) := by decide +kernel
theorem d_Mo_multiplyBy_42 : decode prog_13_method_11_code 42 = .ok (.iload_n 1, 1) := by decide +kernel
theorem d_Mo_multiplyBy_43 : decode prog_13_method_11_code 43 = .ok (.imul, 1) := by decide +kernel
theorem d_Mo_multiplyBy_44 : decode prog_13_method_11_code 44 = .ok (.iload 5, 2) := by decide +kernel
theorem d_Mo_multiplyBy_46 : decode prog_13_method_11_code 46 = .ok (.iadd, 1) := by decide +kernel
theorem d_Mo_multiplyBy_47 : decode prog_13_method_11_code 47 = .ok (.lload 6, 2) := by decide +kernel
theorem d_Mo_multiplyBy_49 : decode prog_13_method_11_code 49 = .ok (.ldc2_w 95, 3) := by decide +kernel
theorem d_Mo_multiplyBy_52 : decode prog_13_method_11_code 52 = .ok (.lrem, 1) := by decide +kernel
theorem d_Mo_multiplyBy_53 : decode prog_13_method_11_code 53 = .ok (.l2i, 1) := by decide +kernel
theorem d_Mo_multiplyBy_54 : decode prog_13_method_11_code 54 = .ok (.iastore, 1) := by decide +kernel
theorem d_Mo_multiplyBy_55 : decode prog_13_method_11_code 55 = .ok (.lload 6, 2) := by decide +kernel
theorem d_Mo_multiplyBy_57 : decode prog_13_method_11_code 57 = .ok (.ldc2_w 95, 3) := by decide +kernel
theorem d_Mo_multiplyBy_60 : decode prog_13_method_11_code 60 = .ok (.ldiv, 1) := by decide +kernel
theorem d_Mo_multiplyBy_61 : decode prog_13_method_11_code 61 = .ok (.lstore_n 3, 1) := by decide +kernel
theorem d_Mo_multiplyBy_62 : decode prog_13_method_11_code 62 = .ok (.iinc 5 1, 3) := by decide +kernel
theorem d_Mo_multiplyBy_65 : decode prog_13_method_11_code 65 = .ok (.goto (-60), 3) := by decide +kernel
theorem d_Mo_multiplyBy_68 : decode prog_13_method_11_code 68 = .ok (.lload_n 3, 1) := by decide +kernel
theorem d_Mo_multiplyBy_69 : decode prog_13_method_11_code 69 = .ok (.lconst 0, 1) := by decide +kernel
theorem d_Mo_multiplyBy_70 : decode prog_13_method_11_code 70 = .ok (.lcmp, 1) := by decide +kernel
theorem d_Mo_multiplyBy_71 : decode prog_13_method_11_code 71 = .ok (.ifCond .le 44, 3) := by decide +kernel
theorem d_Mo_multiplyBy_74 : decode prog_13_method_11_code 74 = .ok (.aload_n 0, 1) := by decide +kernel
theorem d_Mo_multiplyBy_75 : decode prog_13_method_11_code 75 = .ok (.getfield 7, 3) := by decide +kernel
theorem d_Mo_multiplyBy_78 : decode prog_13_method_11_code 78 = .ok (.bipush 100, 2) := by decide +kernel
theorem d_Mo_multiplyBy_80 : decode prog_13_method_11_code 80 = .ok (.iload_n 1, 1) := by decide +kernel
theorem d_Mo_multiplyBy_81 : decode prog_13_method_11_code 81 = .ok (.imul, 1) := by decide +kernel
theorem d_Mo_multiplyBy_82 : decode prog_13_method_11_code 82 = .ok (.aload_n 0, 1) := by decide +kernel
theorem d_Mo_multiplyBy_83 : decode prog_13_method_11_code 83 = .ok (.getfield 13, 3) := by decide +kernel
theorem d_Mo_multiplyBy_86 : decode prog_13_method_11_code 86 = .ok (.iload_n 1, 1) := by decide +kernel
theorem d_Mo_multiplyBy_87 : decode prog_13_method_11_code 87 = .ok (.iaload, 1) := by decide +kernel
theorem d_Mo_multiplyBy_88 : decode prog_13_method_11_code 88 = .ok (.iadd, 1) := by decide +kernel
theorem d_Mo_multiplyBy_89 : decode prog_13_method_11_code 89 = .ok (.lload_n 3, 1) := by decide +kernel
theorem d_Mo_multiplyBy_90 : decode prog_13_method_11_code 90 = .ok (.ldc2_w 95, 3) := by decide +kernel
theorem d_Mo_multiplyBy_93 : decode prog_13_method_11_code 93 = .ok (.lrem, 1) := by decide +kernel
theorem d_Mo_multiplyBy_94 : decode prog_13_method_11_code 94 = .ok (.l2i, 1) := by decide +kernel
theorem d_Mo_multiplyBy_95 : decode prog_13_method_11_code 95 = .ok (.iastore, 1) := by decide +kernel
theorem d_Mo_multiplyBy_96 : decode prog_13_method_11_code 96 = .ok (.lload_n 3, 1) := by decide +kernel
theorem d_Mo_multiplyBy_97 : decode prog_13_method_11_code 97 = .ok (.ldc2_w 95, 3) := by decide +kernel
theorem d_Mo_multiplyBy_100 : decode prog_13_method_11_code 100 = .ok (.ldiv, 1) := by decide +kernel
theorem d_Mo_multiplyBy_101 : decode prog_13_method_11_code 101 = .ok (.lstore_n 3, 1) := by decide +kernel
theorem d_Mo_multiplyBy_102 : decode prog_13_method_11_code 102 = .ok (.aload_n 0, 1) := by decide +kernel
theorem d_Mo_multiplyBy_103 : decode prog_13_method_11_code 103 = .ok (.getfield 13, 3) := by decide +kernel
theorem d_Mo_multiplyBy_106 : decode prog_13_method_11_code 106 = .ok (.iload_n 1, 1) := by decide +kernel
theorem d_Mo_multiplyBy_107 : decode prog_13_method_11_code 107 = .ok (.dup2, 1) := by decide +kernel
theorem d_Mo_multiplyBy_108 : decode prog_13_method_11_code 108 = .ok (.iaload, 1) := by decide +kernel
theorem d_Mo_multiplyBy_109 : decode prog_13_method_11_code 109 = .ok (.iconst 1, 1) := by decide +kernel
theorem d_Mo_multiplyBy_110 : decode prog_13_method_11_code 110 = .ok (.iadd, 1) := by decide +kernel
theorem d_Mo_multiplyBy_111 : decode prog_13_method_11_code 111 = .ok (.iastore, 1) := by decide +kernel
theorem d_Mo_multiplyBy_112 : decode prog_13_method_11_code 112 = .ok (.goto (-44), 3) := by decide +kernel
theorem d_Mo_multiplyBy_115 : decode prog_13_method_11_code 115 = .ok (.aload_n 0, 1) := by decide +kernel
theorem d_Mo_multiplyBy_116 : decode prog_13_method_11_code 116 = .ok (.iload_n 1, 1) := by decide +kernel
theorem d_Mo_multiplyBy_117 : decode prog_13_method_11_code 117 = .ok (.invokevirtual 102, 3) := by decide +kernel
theorem d_Mo_multiplyBy_120 : decode prog_13_method_11_code 120 = .ok (.return_, 1) := by decide +kernel
theorem d_Mo_divideBy_0 : decode prog_13_method_12_code 0 = .ok (.lconst 0, 1) := by decide +kernel
theorem d_Mo_divideBy_1 : decode prog_13_method_12_code 1 = .ok (.lstore_n 3, 1) := by decide +kernel
theorem d_Mo_divideBy_2 : decode prog_13_method_12_code 2 = .ok (.aload_n 0, 1) := by decide +kernel
theorem d_Mo_divideBy_3 : decode prog_13_method_12_code 3 = .ok (.getfield 13, 3) := by decide +kernel
theorem d_Mo_divideBy_6 : decode prog_13_method_12_code 6 = .ok (.iload_n 1, 1) := by decide +kernel
theorem d_Mo_divideBy_7 : decode prog_13_method_12_code 7 = .ok (.iaload, 1) := by decide +kernel
theorem d_Mo_divideBy_8 : decode prog_13_method_12_code 8 = .ok (.iconst 1, 1) := by decide +kernel
theorem d_Mo_divideBy_9 : decode prog_13_method_12_code 9 = .ok (.isub, 1) := by decide +kernel
theorem d_Mo_divideBy_10 : decode prog_13_method_12_code 10 = .ok (.istore 5, 2) := by decide +kernel
theorem d_Mo_divideBy_12 : decode prog_13_method_12_code 12 = .ok (.iload 5, 2) := by decide +kernel
theorem d_Mo_divideBy_14 : decode prog_13_method_12_code 14 = .ok (.ifCond .lt 54, 3) := by decide +kernel
theorem d_Mo_divideBy_17 : decode prog_13_method_12_code 17 = .ok (.lload_n 3, 1) := by decide +kernel
theorem d_Mo_divideBy_18 : decode prog_13_method_12_code 18 = .ok (.ldc2_w 95, 3) := by decide +kernel
theorem d_Mo_divideBy_21 : decode prog_13_method_12_code 21 = .ok (.lmul, 1) := by decide +kernel
theorem d_Mo_divideBy_22 : decode prog_13_method_12_code 22 = .ok (.aload_n 0, 1) := by decide +kernel
theorem d_Mo_divideBy_23 : decode prog_13_method_12_code 23 = .ok (.getfield 7, 3) := by decide +kernel
theorem d_Mo_divideBy_26 : decode prog_13_method_12_code 26 = .ok (.bipush 100, 2) := by decide +kernel
theorem d_Mo_divideBy_28 : decode prog_13_method_12_code 28 = .ok (.iload_n 1, 1) := by decide +kernel
theorem d_Mo_divideBy_29 : decode prog_13_method_12_code 29 = .ok (.imul, 1) := by decide +kernel
theorem d_Mo_divideBy_30 : decode prog_13_method_12_code 30 = .ok (.iload 5, 2) := by decide +kernel
theorem d_Mo_divideBy_32 : decode prog_13_method_12_code 32 = .ok (.iadd, 1) := by decide +kernel
theorem d_Mo_divideBy_33 : decode prog_13_method_12_code 33 = .ok (.iaload, 1) := by decide +kernel
theorem d_Mo_divideBy_34 : decode prog_13_method_12_code 34 = .ok (.i2l, 1) := by decide +kernel
theorem d_Mo_divideBy_35 : decode prog_13_method_12_code 35 = .ok (.ladd, 1) := by decide +kernel
theorem d_Mo_divideBy_36 : decode prog_13_method_12_code 36 = .ok (.lstore 6, 2) := by decide +kernel
theorem d_Mo_divideBy_38 : decode prog_13_method_12_code 38 = .ok (.aload_n 0, 1) := by decide +kernel
theorem d_Mo_divideBy_39 : decode prog_13_method_12_code 39 = .ok (.getfield 7, 3) := by decide +kernel
theorem d_Mo_divideBy_42 : decode prog_13_method_12_code 42 = .ok (.bipush 100, 2) := by decide +kernel
theorem d_Mo_divideBy_44 : decode prog_13_method_12_code 44 = .ok (.iload_n 1, 1) := by decide +kernel
theorem d_Mo_divideBy_45 : decode prog_13_method_12_code 45 = .ok (.imul, 1) := by decide +kernel
theorem d_Mo_divideBy_46 : decode prog_13_method_12_code 46 = .ok (.iload 5, 2) := by decide +kernel
theorem d_Mo_divideBy_48 : decode prog_13_method_12_code 48 = .ok (.iadd, 1) := by decide +kernel
theorem d_Mo_divideBy_49 : decode prog_13_method_12_code 49 = .ok (.lload 6, 2) := by decide +kernel
theorem d_Mo_divideBy_51 : decode prog_13_method_12_code 51 = .ok (.iload_n 2, 1) := by decide +kernel
theorem d_Mo_divideBy_52 : decode prog_13_method_12_code 52 = .ok (.i2l, 1) := by decide +kernel
theorem d_Mo_divideBy_53 : decode prog_13_method_12_code 53 = .ok (.ldiv, 1) := by decide +kernel
theorem d_Mo_divideBy_54 : decode prog_13_method_12_code 54 = .ok (.l2i, 1) := by decide +kernel
theorem d_Mo_divideBy_55 : decode prog_13_method_12_code 55 = .ok (.iastore, 1) := by decide +kernel
theorem d_Mo_divideBy_56 : decode prog_13_method_12_code 56 = .ok (.lload 6, 2) := by decide +kernel
theorem d_Mo_divideBy_58 : decode prog_13_method_12_code 58 = .ok (.iload_n 2, 1) := by decide +kernel
theorem d_Mo_divideBy_59 : decode prog_13_method_12_code 59 = .ok (.i2l, 1) := by decide +kernel
theorem d_Mo_divideBy_60 : decode prog_13_method_12_code 60 = .ok (.lrem, 1) := by decide +kernel
theorem d_Mo_divideBy_61 : decode prog_13_method_12_code 61 = .ok (.lstore_n 3, 1) := by decide +kernel
theorem d_Mo_divideBy_62 : decode prog_13_method_12_code 62 = .ok (.iinc 5 (-1), 3) := by decide +kernel
theorem d_Mo_divideBy_65 : decode prog_13_method_12_code 65 = .ok (.goto (-53), 3) := by decide +kernel
theorem d_Mo_divideBy_68 : decode prog_13_method_12_code 68 = .ok (.aload_n 0, 1) := by decide +kernel
theorem d_Mo_divideBy_69 : decode prog_13_method_12_code 69 = .ok (.iload_n 1, 1) := by decide +kernel
theorem d_Mo_divideBy_70 : decode prog_13_method_12_code 70 = .ok (.invokevirtual 102, 3) := by decide +kernel
theorem d_Mo_divideBy_73 : decode prog_13_method_12_code 73 = .ok (.lload_n 3, 1) := by decide +kernel
theorem d_Mo_divideBy_74 : decode prog_13_method_12_code 74 = .ok (.l2i, 1) := by decide +kernel
theorem d_Mo_divideBy_75 : decode prog_13_method_12_code 75 = .ok (.ireturn, 1) := by decide +kernel
theorem d_Mo_isEven_0 : decode prog_13_method_13_code 0 = .ok (.aload_n 0, 1) := by decide +kernel
theorem d_Mo_isEven_1 : decode prog_13_method_13_code 1 = .ok (.getfield 13, 3) := by decide +kernel
theorem d_Mo_isEven_4 : decode prog_13_method_13_code 4 = .ok (.iload_n 1, 1) := by decide +kernel
theorem d_Mo_isEven_5 : decode prog_13_method_13_code 5 = .ok (.iaload, 1) := by decide +kernel
theorem d_Mo_isEven_6 : decode prog_13_method_13_code 6 = .ok (.ifCond .eq 17, 3) := by decide +kernel
theorem d_Mo_isEven_9 : decode prog_13_method_13_code 9 = .ok (.aload_n 0, 1) := by decide +kernel
theorem d_Mo_isEven_10 : decode prog_13_method_13_code 10 = .ok (.getfield 7, 3) := by decide +kernel
theorem d_Mo_isEven_13 : decode prog_13_method_13_code 13 = .ok (.bipush 100, 2) := by decide +kernel
theorem d_Mo_isEven_15 : decode prog_13_method_13_code 15 = .ok (.iload_n 1, 1) := by decide +kernel
theorem d_Mo_isEven_16 : decode prog_13_method_13_code 16 = .ok (.imul, 1) := by decide +kernel
theorem d_Mo_isEven_17 : decode prog_13_method_13_code 17 = .ok (.iaload, 1) := by decide +kernel
theorem d_Mo_isEven_18 : decode prog_13_method_13_code 18 = .ok (.iconst 2, 1) := by decide +kernel
theorem d_Mo_isEven_19 : decode prog_13_method_13_code 19 = .ok (.irem, 1) := by decide +kernel
theorem d_Mo_isEven_20 : decode prog_13_method_13_code 20 = .ok (.ifCond .ne 7, 3) := by decide +kernel
theorem d_Mo_isEven_23 : decode prog_13_method_13_code 23 = .ok (.iconst 1, 1) := by decide +kernel
theorem d_Mo_isEven_24 : decode prog_13_method_13_code 24 = .ok (.goto 4, 3) := by decide +kernel
theorem d_Mo_isEven_27 : decode prog_13_method_13_code 27 = .ok (.iconst 0, 1) := by decide +kernel
theorem d_Mo_isEven_28 : decode prog_13_method_13_code 28 = .ok (.ireturn, 1) := by decide +kernel
theorem d_Mo_common_0 : decode prog_13_method_14_code 0 = .ok (.aload_n 0, 1) := by decide +kernel
theorem d_Mo_common_1 : decode prog_13_method_14_code 1 = .ok (.iload_n 1, 1) := by decide +kernel
theorem d_Mo_common_2 : decode prog_13_method_14_code 2 = .ok (.sipush 248, 3) := by decide +kernel
theorem d_Mo_common_5 : decode prog_13_method_14_code 5 = .ok (.invokevirtual 106, 3) := by decide +kernel
theorem d_Mo_common_8 : decode prog_13_method_14_code 8 = .ok (.aload_n 0, 1) := by decide +kernel
theorem d_Mo_common_9 : decode prog_13_method_14_code 9 = .ok (.iload_n 2, 1) := by decide +kernel
theorem d_Mo_common_10 : decode prog_13_method_14_code 10 = .ok (.sipush 249, 3) := by decide +kernel
theorem d_Mo_common_13 : decode prog_13_method_14_code 13 = .ok (.invokevirtual 106, 3) := by decide +kernel
theorem d_Mo_common_16 : decode prog_13_method_14_code 16 = .ok (.iconst 0, 1) := by decide +kernel
theorem d_Mo_common_17 : decode prog_13_method_14_code 17 = .ok (.istore_n 3, 1) := by decide +kernel
theorem d_Mo_common_18 : decode prog_13_method_14_code 18 = .ok (.aload_n 0, 1) := by decide +kernel
theorem d_Mo_common_19 : decode prog_13_method_14_code 19 = .ok (.sipush 248, 3) := by decide +kernel
theorem d_Mo_common_22 : decode prog_13_method_14_code 22 = .ok (.invokevirtual 110, 3) := by decide +kernel
theorem d_Mo_common_25 : decode prog_13_method_14_code 25 = .ok (.ifCond .eq 38, 3) := by decide +kernel
theorem d_Mo_common_28 : decode prog_13_method_14_code 28 = .ok (.aload_n 0, 1) := by decide +kernel
theorem d_Mo_common_29 : decode prog_13_method_14_code 29 = .ok (.sipush 249, 3) := by decide +kernel
theorem d_Mo_common_32 : decode prog_13_method_14_code 32 = .ok (.invokevirtual 110, 3) := by decide +kernel
theorem d_Mo_common_35 : decode prog_13_method_14_code 35 = .ok (.ifCond .eq 28, 3) := by decide +kernel
theorem d_Mo_common_38 : decode prog_13_method_14_code 38 = .ok (.aload_n 0, 1) := by decide +kernel
theorem d_Mo_common_39 : decode prog_13_method_14_code 39 = .ok (.sipush 248, 3) := by decide +kernel
theorem d_Mo_common_42 : decode prog_13_method_14_code 42 = .ok (.iconst 2, 1) := by decide +kernel
theorem d_Mo_common_43 : decode prog_13_method_14_code 43 = .ok (.invokevirtual 114, 3) := by decide +kernel
theorem d_Mo_common_46 : decode prog_13_method_14_code 46 = .ok (.aload_n 0, 1) := by decide +kernel
theorem d_Mo_common_47 : decode prog_13_method_14_code 47 = .ok (.sipush 249, 3) := by decide +kernel
theorem d_Mo_common_50 : decode prog_13_method_14_code 50 = .ok (.iconst 2, 1) := by decide +kernel
theorem d_Mo_common_51 : decode prog_13_method_14_code 51 = .ok (.invokevirtual 114, 3) := by decide +kernel
theorem d_Mo_common_54 : decode prog_13_method_14_code 54 = .ok (.iadd, 1) := by decide +kernel
theorem d_Mo_common_55 : decode prog_13_method_14_code 55 = .ok (.istore 4, 2) := by decide +kernel
theorem d_Mo_common_57 : decode prog_13_method_14_code 57 = .ok (.iinc 3 1, 3) := by decide +kernel
theorem d_Mo_common_60 : decode prog_13_method_14_code 60 = .ok (.goto (-42), 3) := by decide +kernel
theorem d_Mo_common_63 : decode prog_13_method_14_code 63 = .ok (.aload_n 0, 1) := by decide +kernel
theorem d_Mo_common_64 : decode prog_13_method_14_code 64 = .ok (.getfield 13, 3) := by decide +kernel
theorem d_Mo_common_67 : decode prog_13_method_14_code 67 = .ok (.sipush 249, 3) := by decide +kernel
theorem d_Mo_common_70 : decode prog_13_method_14_code 70 = .ok (.iaload, 1) := by decide +kernel
theorem d_Mo_common_71 : decode prog_13_method_14_code 71 = .ok (.ifCond .le 124, 3) := by decide +kernel
theorem d_Mo_common_74 : decode prog_13_method_14_code 74 = .ok (.aload_n 0, 1) := by decide +kernel
theorem d_Mo_common_75 : decode prog_13_method_14_code 75 = .ok (.sipush 248, 3) := by decide +kernel
theorem d_Mo_common_78 : decode prog_13_method_14_code 78 = .ok (.invokevirtual 110, 3) := by decide +kernel
theorem d_Mo_common_81 : decode prog_13_method_14_code 81 = .ok (.ifCond .eq 16, 3) := by decide +kernel
theorem d_Mo_common_84 : decode prog_13_method_14_code 84 = .ok (.aload_n 0, 1) := by decide +kernel
theorem d_Mo_common_85 : decode prog_13_method_14_code 85 = .ok (.sipush 248, 3) := by decide +kernel
theorem d_Mo_common_88 : decode prog_13_method_14_code 88 = .ok (.iconst 2, 1) := by decide +kernel
theorem d_Mo_common_89 : decode prog_13_method_14_code 89 = .ok (.invokevirtual 114, 3) := by decide +kernel
theorem d_Mo_common_92 : decode prog_13_method_14_code 92 = .ok (.istore 4, 2) := by decide +kernel
theorem d_Mo_common_94 : decode prog_13_method_14_code 94 = .ok (.goto (-20), 3) := by decide +kernel
theorem d_Mo_common_97 : decode prog_13_method_14_code 97 = .ok (.aload_n 0, 1) := by decide +kernel
theorem d_Mo_common_98 : decode prog_13_method_14_code 98 = .ok (.sipush 249, 3) := by decide +kernel
theorem d_Mo_common_101 : decode prog_13_method_14_code 101 = .ok (.invokevirtual 110, 3) := by decide +kernel
theorem d_Mo_common_104 : decode prog_13_method_14_code 104 = .ok (.ifCond .eq 16, 3) := by decide +kernel
theorem d_Mo_common_107 : decode prog_13_method_14_code 107 = .ok (.aload_n 0, 1) := by decide +kernel
theorem d_Mo_common_108 : decode prog_13_method_14_code 108 = .ok (.sipush 249, 3) := by decide +kernel
theorem d_Mo_common_111 : decode prog_13_method_14_code 111 = .ok (.iconst 2, 1) := by decide +kernel
theorem d_Mo_common_112 : decode prog_13_method_14_code 112 = .ok (.invokevirtual 114, 3) := by decide +kernel
theorem d_Mo_common_115 : decode prog_13_method_14_code 115 = .ok (.istore 4, 2) := by decide +kernel
theorem d_Mo_common_117 : decode prog_13_method_14_code 117 = .ok (.goto (-20), 3) := by decide +kernel
theorem d_Mo_common_120 : decode prog_13_method_14_code 120 = .ok (.aload_n 0, 1) := by decide +kernel
theorem d_Mo_common_121 : decode prog_13_method_14_code 121 = .ok (.sipush 248, 3) := by decide +kernel
theorem d_Mo_common_124 : decode prog_13_method_14_code 124 = .ok (.sipush 249, 3) := by decide +kernel
theorem d_Mo_common_127 : decode prog_13_method_14_code 127 = .ok (.invokevirtual 117, 3) := by decide +kernel
theorem d_Mo_common_130 : decode prog_13_method_14_code 130 = .ok (.ifCond .le 49, 3) := by decide +kernel
theorem d_Mo_common_133 : decode prog_13_method_14_code 133 = .ok (.aload_n 0, 1) := by decide +kernel
theorem d_Mo_common_134 : decode prog_13_method_14_code 134 = .ok (.sipush 248, 3) := by decide +kernel
theorem d_Mo_common_137 : decode prog_13_method_14_code 137 = .ok (.sipush 249, 3) := by decide +kernel
theorem d_Mo_common_140 : decode prog_13_method_14_code 140 = .ok (.sipush 248, 3) := by decide +kernel
theorem d_Mo_common_143 : decode prog_13_method_14_code 143 = .ok (.invokevirtual 120, 3) := by decide +kernel
theorem d_Mo_common_146 : decode prog_13_method_14_code 146 = .ok (.aload_n 0, 1) := by decide +kernel
theorem d_Mo_common_147 : decode prog_13_method_14_code 147 = .ok (.sipush 248, 3) := by decide +kernel
theorem d_Mo_common_150 : decode prog_13_method_14_code 150 = .ok (.sipush 250, 3) := by decide +kernel
theorem d_Mo_common_153 : decode prog_13_method_14_code 153 = .ok (.invokevirtual 106, 3) := by decide +kernel
theorem d_Mo_common_156 : decode prog_13_method_14_code 156 = .ok (.aload_n 0, 1) := by decide +kernel
theorem d_Mo_common_157 : decode prog_13_method_14_code 157 = .ok (.sipush 249, 3) := by decide +kernel
theorem d_Mo_common_160 : decode prog_13_method_14_code 160 = .ok (.sipush 248, 3) := by decide +kernel
theorem d_Mo_common_163 : decode prog_13_method_14_code 163 = .ok (.invokevirtual 106, 3) := by decide +kernel
theorem d_Mo_common_166 : decode prog_13_method_14_code 166 = .ok (.aload_n 0, 1) := by decide +kernel
theorem d_Mo_common_167 : decode prog_13_method_14_code 167 = .ok (.sipush 250, 3) := by decide +kernel
theorem d_Mo_common_170 : decode prog_13_method_14_code 170 = .ok (.sipush 249, 3) := by decide +kernel
theorem d_Mo_common_173 : decode prog_13_method_14_code 173 = .ok (.invokevirtual 106, 3) := by decide +kernel
theorem d_Mo_common_176 : decode prog_13_method_14_code 176 = .ok (.goto (-113), 3) := by decide +kernel
theorem d_Mo_common_179 : decode prog_13_method_14_code 179 = .ok (.aload_n 0, 1) := by decide +kernel
theorem d_Mo_common_180 : decode prog_13_method_14_code 180 = .ok (.sipush 249, 3) := by decide +kernel
theorem d_Mo_common_183 : decode prog_13_method_14_code 183 = .ok (.sipush 248, 3) := by decide +kernel
theorem d_Mo_common_186 : decode prog_13_method_14_code 186 = .ok (.sipush 249, 3) := by decide +kernel
theorem d_Mo_common_189 : decode prog_13_method_14_code 189 = .ok (.invokevirtual 120, 3) := by decide +kernel
theorem d_Mo_common_192 : decode prog_13_method_14_code 192 = .ok (.goto (-129), 3) := by decide +kernel
theorem d_Mo_common_195 : decode prog_13_method_14_code 195 = .ok (.iconst 0, 1) := by decide +kernel
theorem d_Mo_common_196 : decode prog_13_method_14_code 196 = .ok (.istore 4, 2) := by decide +kernel
theorem d_Mo_common_198 : decode prog_13_method_14_code 198 = .ok (.iload 4, 2) := by decide +kernel
theorem d_Mo_common_200 : decode prog_13_method_14_code 200 = .ok (.iload_n 3, 1) := by decide +kernel
theorem d_Mo_common_201 : decode prog_13_method_14_code 201 = .ok (.if_icmp .ge 17, 3) := by decide +kernel
theorem d_Mo_common_204 : decode prog_13_method_14_code 204 = .ok (.aload_n 0, 1) := by decide +kernel
theorem d_Mo_common_205 : decode prog_13_method_14_code 205 = .ok (.sipush 248, 3) := by decide +kernel
theorem d_Mo_common_208 : decode prog_13_method_14_code 208 = .ok (.iconst 2, 1) := by decide +kernel
theorem d_Mo_common_209 : decode prog_13_method_14_code 209 = .ok (.invokevirtual 124, 3) := by decide +kernel
theorem d_Mo_common_212 : decode prog_13_method_14_code 212 = .ok (.iinc 4 1, 3) := by decide +kernel
theorem d_Mo_common_215 : decode prog_13_method_14_code 215 = .ok (.goto (-17), 3) := by decide +kernel
theorem d_Mo_common_218 : decode prog_13_method_14_code 218 = .ok (.return_, 1) := by decide +kernel
theorem d_Mo_divide_0 : decode prog_13_method_15_code 0 = .ok (.aload_n 0, 1) := by decide +kernel
theorem d_Mo_divide_1 : decode prog_13_method_15_code 1 = .ok (.iload_n 1, 1) := by decide +kernel
theorem d_Mo_divide_2 : decode prog_13_method_15_code 2 = .ok (.sipush 251, 3) := by decide +kernel
theorem d_Mo_divide_5 : decode prog_13_method_15_code 5 = .ok (.invokevirtual 106, 3) := by decide +kernel
theorem d_Mo_divide_8 : decode prog_13_method_15_code 8 = .ok (.aload_n 0, 1) := by decide +kernel
theorem d_Mo_divide_9 : decode prog_13_method_15_code 9 = .ok (.getfield 13, 3) := by decide +kernel
theorem d_Mo_divide_12 : decode prog_13_method_15_code 12 = .ok (.sipush 252, 3) := by decide +kernel
theorem d_Mo_divide_15 : decode prog_13_method_15_code 15 = .ok (.iconst 0, 1) := by decide +kernel
theorem d_Mo_divide_16 : decode prog_13_method_15_code 16 = .ok (.iastore, 1) := by decide +kernel
theorem d_Mo_divide_17 : decode prog_13_method_15_code 17 = .ok (.aload_n 0, 1) := by decide +kernel
theorem d_Mo_divide_18 : decode prog_13_method_15_code 18 = .ok (.getfield 13, 3) := by decide +kernel
theorem d_Mo_divide_21 : decode prog_13_method_15_code 21 = .ok (.sipush 251, 3) := by decide +kernel
theorem d_Mo_divide_24 : decode prog_13_method_15_code 24 = .ok (.iaload, 1) := by decide +kernel
theorem d_Mo_divide_25 : decode prog_13_method_15_code 25 = .ok (.iconst 1, 1) := by decide +kernel
theorem d_Mo_divide_26 : decode prog_13_method_15_code 26 = .ok (.isub, 1) := by decide +kernel
theorem d_Mo_divide_27 : decode prog_13_method_15_code 27 = .ok (.istore_n 2, 1) := by decide +kernel
theorem d_Mo_divide_28 : decode prog_13_method_15_code 28 = .ok (.iload_n 2, 1) := by decide +kernel
theorem d_Mo_divide_29 : decode prog_13_method_15_code 29 = .ok (.ifCond .lt 132, 3) := by decide +kernel
theorem d_Mo_divide_32 : decode prog_13_method_15_code 32 = .ok (.iconst 0, 1) := by decide +kernel
theorem d_Mo_divide_33 : decode prog_13_method_15_code 33 = .ok (.istore_n 3, 1) := by decide +kernel
theorem d_Mo_divide_34 : decode prog_13_method_15_code 34 = .ok (.bipush 23, 2) := by decide +kernel
theorem d_Mo_divide_36 : decode prog_13_method_15_code 36 = .ok (.istore 4, 2) := by decide +kernel
theorem d_Mo_divide_38 : decode prog_13_method_15_code 38 = .ok (.iload 4, 2) := by decide +kernel
theorem d_Mo_divide_40 : decode prog_13_method_15_code 40 = .ok (.ifCond .lt 103, 3) := by decide +kernel
theorem d_Mo_divide_43 : decode prog_13_method_15_code 43 = .ok (.aload_n 0, 1) := by decide +kernel
theorem d_Mo_divide_44 : decode prog_13_method_15_code 44 = .ok (.sipush 252, 3) := by decide +kernel
theorem d_Mo_divide_47 : decode prog_13_method_15_code 47 = .ok (.iconst 2, 1) := by decide +kernel
theorem d_Mo_divide_48 : decode prog_13_method_15_code 48 = .ok (.invokevirtual 124, 3) := by decide +kernel
theorem d_Mo_divide_51 : decode prog_13_method_15_code 51 = .ok (.aload_n 0, 1) := by decide +kernel
theorem d_Mo_divide_52 : decode prog_13_method_15_code 52 = .ok (.getfield 7, 3) := by decide +kernel
theorem d_Mo_divide_55 : decode prog_13_method_15_code 55 = .ok (.sipush 25100, 3) := by decide +kernel
theorem d_Mo_divide_58 : decode prog_13_method_15_code 58 = .ok (.iload_n 2, 1) := by decide +kernel
theorem d_Mo_divide_59 : decode prog_13_method_15_code 59 = .ok (.iadd, 1) := by decide +kernel
theorem d_Mo_divide_60 : decode prog_13_method_15_code 60 = .ok (.iaload, 1) := by decide +kernel
theorem d_Mo_divide_61 : decode prog_13_method_15_code 61 = .ok (.iload 4, 2) := by decide +kernel
theorem d_Mo_divide_63 : decode prog_13_method_15_code 63 = .ok (.ishr, 1) := by decide +kernel
theorem d_Mo_divide_64 : decode prog_13_method_15_code 64 = .ok (.iconst 1, 1) := by decide +kernel
theorem d_Mo_divide_65 : decode prog_13_method_15_code 65 = .ok (.iand, 1) := by decide +kernel
theorem d_Mo_divide_66 : decode prog_13_method_15_code 66 = .ok (.iconst 1, 1) := by decide +kernel
theorem d_Mo_divide_67 : decode prog_13_method_15_code 67 = .ok (.if_icmp .ne 37, 3) := by decide +kernel
theorem d_Mo_divide_70 : decode prog_13_method_15_code 70 = .ok (.aload_n 0, 1) := by decide +kernel
theorem d_Mo_divide_71 : decode prog_13_method_15_code 71 = .ok (.getfield 13, 3) := by decide +kernel
theorem d_Mo_divide_74 : decode prog_13_method_15_code 74 = .ok (.sipush 252, 3) := by decide +kernel
theorem d_Mo_divide_77 : decode prog_13_method_15_code 77 = .ok (.iaload, 1) := by decide +kernel
theorem d_Mo_divide_78 : decode prog_13_method_15_code 78 = .ok (.ifCond .ne 14, 3) := by decide +kernel
theorem d_Mo_divide_81 : decode prog_13_method_15_code 81 = .ok (.aload_n 0, 1) := by decide +kernel
theorem d_Mo_divide_82 : decode prog_13_method_15_code 82 = .ok (.sipush 252, 3) := by decide +kernel
theorem d_Mo_divide_85 : decode prog_13_method_15_code 85 = .ok (.lconst 1, 1) := by decide +kernel
theorem d_Mo_divide_86 : decode prog_13_method_15_code 86 = .ok (.invokevirtual 127, 3) := by decide +kernel
theorem d_Mo_divide_89 : decode prog_13_method_15_code 89 = .ok (.goto 15, 3) := by decide +kernel
theorem d_Mo_divide_92 : decode prog_13_method_15_code 92 = .ok (.aload_n 0, 1) := by decide +kernel
theorem d_Mo_divide_93 : decode prog_13_method_15_code 93 = .ok (.getfield 7, 3) := by decide +kernel
theorem d_Mo_divide_96 : decode prog_13_method_15_code 96 = .ok (.sipush 25200, 3) := by decide +kernel
theorem d_Mo_divide_99 : decode prog_13_method_15_code 99 = .ok (.dup2, 1) := by decide +kernel
theorem d_Mo_divide_100 : decode prog_13_method_15_code 100 = .ok (.iaload, 1) := by decide +kernel
theorem d_Mo_divide_101 : decode prog_13_method_15_code 101 = .ok (.iconst 1, 1) := by decide +kernel
theorem d_Mo_divide_102 : decode prog_13_method_15_code 102 = .ok (.iadd, 1) := by decide +kernel
theorem d_Mo_divide_103 : decode prog_13_method_15_code 103 = .ok (.iastore, 1) := by decide +kernel
theorem d_Mo_divide_104 : decode prog_13_method_15_code 104 = .ok (.aload_n 0, 1) := by decide +kernel
theorem d_Mo_divide_105 : decode prog_13_method_15_code 105 = .ok (.sipush 252, 3) := by decide +kernel
theorem d_Mo_divide_108 : decode prog_13_method_15_code 108 = .ok (.sipush 248, 3) := by decide +kernel
theorem d_Mo_divide_111 : decode prog_13_method_15_code 111 = .ok (.invokevirtual 117, 3) := by decide +kernel
theorem d_Mo_divide_114 : decode prog_13_method_15_code 114 = .ok (.ifCond .lt 23, 3) := by decide +kernel
theorem d_Mo_divide_117 : decode prog_13_method_15_code 117 = .ok (.aload_n 0, 1) := by decide +kernel
theorem d_Mo_divide_118 : decode prog_13_method_15_code 118 = .ok (.sipush 252, 3) := by decide +kernel
theorem d_Mo_divide_121 : decode prog_13_method_15_code 121 = .ok (.sipush 248, 3) := by decide +kernel
theorem d_Mo_divide_124 : decode prog_13_method_15_code 124 = .ok (.sipush 252, 3) := by decide +kernel
theorem d_Mo_divide_127 : decode prog_13_method_15_code 127 = .ok (.invokevirtual 120, 3) := by decide +kernel
theorem d_Mo_divide_130 : decode prog_13_method_15_code 130 = .ok (.iload_n 3, 1) := by decide +kernel
theorem d_Mo_divide_131 : decode prog_13_method_15_code 131 = .ok (.iconst 1, 1) := by decide +kernel
theorem d_Mo_divide_132 : decode prog_13_method_15_code 132 = .ok (.iload 4, 2) := by decide +kernel
theorem d_Mo_divide_134 : decode prog_13_method_15_code 134 = .ok (.ishl, 1) := by decide +kernel
theorem d_Mo_divide_135 : decode prog_13_method_15_code 135 = .ok (.ior, 1) := by decide +kernel
theorem d_Mo_divide_136 : decode prog_13_method_15_code 136 = .ok (.istore_n 3, 1) := by decide +kernel
theorem d_Mo_divide_137 : decode prog_13_method_15_code 137 = .ok (.iinc 4 (-1), 3) := by decide +kernel
theorem d_Mo_divide_140 : decode prog_13_method_15_code 140 = .ok (.goto (-102), 3) := by decide +kernel
theorem d_Mo_divide_143 : decode prog_13_method_15_code 143 = .ok (.aload_n 0, 1) := by decide +kernel
theorem d_Mo_divide_144 : decode prog_13_method_15_code 144 = .ok (.getfield 7, 3) := by decide +kernel
theorem d_Mo_divide_147 : decode prog_13_method_15_code 147 = .ok (.bipush 100, 2) := by decide +kernel
theorem d_Mo_divide_149 : decode prog_13_method_15_code 149 = .ok (.iload_n 1, 1) := by decide +kernel
theorem d_Mo_divide_150 : decode prog_13_method_15_code 150 = .ok (.imul, 1) := by decide +kernel
theorem d_Mo_divide_151 : decode prog_13_method_15_code 151 = .ok (.iload_n 2, 1) := by decide +kernel
theorem d_Mo_divide_152 : decode prog_13_method_15_code 152 = .ok (.iadd, 1) := by decide +kernel
theorem d_Mo_divide_153 : decode prog_13_method_15_code 153 = .ok (.iload_n 3, 1) := by decide +kernel
theorem d_Mo_divide_154 : decode prog_13_method_15_code 154 = .ok (.iastore, 1) := by decide +kernel
theorem d_Mo_divide_155 : decode prog_13_method_15_code 155 = .ok (.iinc 2 (-1), 3) := by decide +kernel
theorem d_Mo_divide_158 : decode prog_13_method_15_code 158 = .ok (.goto (-130), 3) := by decide +kernel
theorem d_Mo_divide_161 : decode prog_13_method_15_code 161 = .ok (.aload_n 0, 1) := by decide +kernel
theorem d_Mo_divide_162 : decode prog_13_method_15_code 162 = .ok (.iload_n 1, 1) := by decide +kernel
theorem d_Mo_divide_163 : decode prog_13_method_15_code 163 = .ok (.invokevirtual 102, 3) := by decide +kernel
theorem d_Mo_divide_166 : decode prog_13_method_15_code 166 = .ok (.return_, 1) := by decide +kernel
theorem d_Mo_reduce_0 : decode prog_13_method_16_code 0 = .ok (.aload_n 0, 1) := by decide +kernel
theorem d_Mo_reduce_1 : decode prog_13_method_16_code 1 = .ok (.getfield 13, 3) := by decide +kernel
theorem d_Mo_reduce_4 : decode prog_13_method_16_code 4 = .ok (.iconst 2, 1) := by decide +kernel
theorem d_Mo_reduce_5 : decode prog_13_method_16_code 5 = .ok (.iload_n 1, 1) := by decide +kernel
theorem d_Mo_reduce_6 : decode prog_13_method_16_code 6 = .ok (.imul, 1) := by decide +kernel
theorem d_Mo_reduce_7 : decode prog_13_method_16_code 7 = .ok (.iaload, 1) := by decide +kernel
theorem d_Mo_reduce_8 : decode prog_13_method_16_code 8 = .ok (.ifCond .ne 14, 3) := by decide +kernel
theorem d_Mo_reduce_11 : decode prog_13_method_16_code 11 = .ok (.aload_n 0, 1) := by decide +kernel
theorem d_Mo_reduce_12 : decode prog_13_method_16_code 12 = .ok (.iconst 2, 1) := by decide +kernel
theorem d_Mo_reduce_13 : decode prog_13_method_16_code 13 = .ok (.iload_n 1, 1) := by decide +kernel
theorem d_Mo_reduce_14 : decode prog_13_method_16_code 14 = .ok (.imul, 1) := by decide +kernel
theorem d_Mo_reduce_15 : decode prog_13_method_16_code 15 = .ok (.iconst 1, 1) := by decide +kernel
theorem d_Mo_reduce_16 : decode prog_13_method_16_code 16 = .ok (.iadd, 1) := by decide +kernel
theorem d_Mo_reduce_17 : decode prog_13_method_16_code 17 = .ok (.lconst 1, 1) := by decide +kernel
theorem d_Mo_reduce_18 : decode prog_13_method_16_code 18 = .ok (.invokevirtual 127, 3) := by decide +kernel
theorem d_Mo_reduce_21 : decode prog_13_method_16_code 21 = .ok (.return_, 1) := by decide +kernel
theorem d_Mo_reduce_22 : decode prog_13_method_16_code 22 = .ok (.aload_n 0, 1) := by decide +kernel
theorem d_Mo_reduce_23 : decode prog_13_method_16_code 23 = .ok (.iconst 2, 1) := by decide +kernel
theorem d_Mo_reduce_24 : decode prog_13_method_16_code 24 = .ok (.iload_n 1, 1) := by decide +kernel
theorem d_Mo_reduce_25 : decode prog_13_method_16_code 25 = .ok (.imul, 1) := by decide +kernel
theorem d_Mo_reduce_26 : decode prog_13_method_16_code 26 = .ok (.iconst 2, 1) := by decide +kernel
theorem d_Mo_reduce_27 : decode prog_13_method_16_code 27 = .ok (.iload_n 1, 1) := by decide +kernel
theorem d_Mo_reduce_28 : decode prog_13_method_16_code 28 = .ok (.imul, 1) := by decide +kernel
theorem d_Mo_reduce_29 : decode prog_13_method_16_code 29 = .ok (.iconst 1, 1) := by decide +kernel
theorem d_Mo_reduce_30 : decode prog_13_method_16_code 30 = .ok (.iadd, 1) := by decide +kernel
theorem d_Mo_reduce_31 : decode prog_13_method_16_code 31 = .ok (.invokevirtual 131, 3) := by decide +kernel
theorem d_Mo_reduce_34 : decode prog_13_method_16_code 34 = .ok (.aload_n 0, 1) := by decide +kernel
theorem d_Mo_reduce_35 : decode prog_13_method_16_code 35 = .ok (.getfield 13, 3) := by decide +kernel
theorem d_Mo_reduce_38 : decode prog_13_method_16_code 38 = .ok (.sipush 248, 3) := by decide +kernel
theorem d_Mo_reduce_41 : decode prog_13_method_16_code 41 = .ok (.iaload, 1) := by decide +kernel
theorem d_Mo_reduce_42 : decode prog_13_method_16_code 42 = .ok (.iconst 1, 1) := by decide +kernel
theorem d_Mo_reduce_43 : decode prog_13_method_16_code 43 = .ok (.if_icmp .ne 16, 3) := by decide +kernel
theorem d_Mo_reduce_46 : decode prog_13_method_16_code 46 = .ok (.aload_n 0, 1) := by decide +kernel
theorem d_Mo_reduce_47 : decode prog_13_method_16_code 47 = .ok (.getfield 7, 3) := by decide +kernel
theorem d_Mo_reduce_50 : decode prog_13_method_16_code 50 = .ok (.sipush 24800, 3) := by decide +kernel
theorem d_Mo_reduce_53 : decode prog_13_method_16_code 53 = .ok (.iaload, 1) := by decide +kernel
theorem d_Mo_reduce_54 : decode prog_13_method_16_code 54 = .ok (.iconst 1, 1) := by decide +kernel
theorem d_Mo_reduce_55 : decode prog_13_method_16_code 55 = .ok (.if_icmp .ne 4, 3) := by decide +kernel
theorem d_Mo_reduce_58 : decode prog_13_method_16_code 58 = .ok (.return_, 1) := by decide +kernel
theorem d_Mo_reduce_59 : decode prog_13_method_16_code 59 = .ok (.aload_n 0, 1) := by decide +kernel
theorem d_Mo_reduce_60 : decode prog_13_method_16_code 60 = .ok (.iconst 2, 1) := by decide +kernel
theorem d_Mo_reduce_61 : decode prog_13_method_16_code 61 = .ok (.iload_n 1, 1) := by decide +kernel
theorem d_Mo_reduce_62 : decode prog_13_method_16_code 62 = .ok (.imul, 1) := by decide +kernel
theorem d_Mo_reduce_63 : decode prog_13_method_16_code 63 = .ok (.invokevirtual 134, 3) := by decide +kernel
theorem d_Mo_reduce_66 : decode prog_13_method_16_code 66 = .ok (.aload_n 0, 1) := by decide +kernel
theorem d_Mo_reduce_67 : decode prog_13_method_16_code 67 = .ok (.iconst 2, 1) := by decide +kernel
theorem d_Mo_reduce_68 : decode prog_13_method_16_code 68 = .ok (.iload_n 1, 1) := by decide +kernel
theorem d_Mo_reduce_69 : decode prog_13_method_16_code 69 = .ok (.imul, 1) := by decide +kernel
theorem d_Mo_reduce_70 : decode prog_13_method_16_code 70 = .ok (.iconst 1, 1) := by decide +kernel
theorem d_Mo_reduce_71 : decode prog_13_method_16_code 71 = .ok (.iadd, 1) := by decide +kernel
theorem d_Mo_reduce_72 : decode prog_13_method_16_code 72 = .ok (.invokevirtual 134, 3) := by decide +kernel
theorem d_Mo_reduce_75 : decode prog_13_method_16_code 75 = .ok (.return_, 1) := by decide +kernel
theorem d_Mo_tell_0 : decode prog_13_method_17_code 0 = .ok (.aload_n 0, 1) := by decide +kernel
theorem d_Mo_tell_1 : decode prog_13_method_17_code 1 = .ok (.iconst 2, 1) := by decide +kernel
theorem d_Mo_tell_2 : decode prog_13_method_17_code 2 = .ok (.iload_n 1, 1) := by decide +kernel
theorem d_Mo_tell_3 : decode prog_13_method_17_code 3 = .ok (.imul, 1) := by decide +kernel
theorem d_Mo_tell_4 : decode prog_13_method_17_code 4 = .ok (.lload_n 2, 1) := by decide +kernel
theorem d_Mo_tell_5 : decode prog_13_method_17_code 5 = .ok (.invokevirtual 127, 3) := by decide +kernel
theorem d_Mo_tell_8 : decode prog_13_method_17_code 8 = .ok (.aload_n 0, 1) := by decide +kernel
theorem d_Mo_tell_9 : decode prog_13_method_17_code 9 = .ok (.iconst 2, 1) := by decide +kernel
theorem d_Mo_tell_10 : decode prog_13_method_17_code 10 = .ok (.iload_n 1, 1) := by decide +kernel
theorem d_Mo_tell_11 : decode prog_13_method_17_code 11 = .ok (.imul, 1) := by decide +kernel
theorem d_Mo_tell_12 : decode prog_13_method_17_code 12 = .ok (.iconst 1, 1) := by decide +kernel
theorem d_Mo_tell_13 : decode prog_13_method_17_code 13 = .ok (.iadd, 1) := by decide +kernel
theorem d_Mo_tell_14 : decode prog_13_method_17_code 14 = .ok (.lload 4, 2) := by decide +kernel
theorem d_Mo_tell_16 : decode prog_13_method_17_code 16 = .ok (.invokevirtual 127, 3) := by decide +kernel
theorem d_Mo_tell_19 : decode prog_13_method_17_code 19 = .ok (.aload_n 0, 1) := by decide +kernel
theorem d_Mo_tell_20 : decode prog_13_method_17_code 20 = .ok (.iload_n 1, 1) := by decide +kernel
theorem d_Mo_tell_21 : decode prog_13_method_17_code 21 = .ok (.invokevirtual 137, 3) := by decide +kernel
theorem d_Mo_tell_24 : decode prog_13_method_17_code 24 = .ok (.return_, 1) := by decide +kernel
theorem d_Mo_sumUp_0 : decode prog_13_method_18_code 0 = .ok (.aload_n 0, 1) := by decide +kernel
theorem d_Mo_sumUp_1 : decode prog_13_method_18_code 1 = .ok (.sipush 224, 3) := by decide +kernel
theorem d_Mo_sumUp_4 : decode prog_13_method_18_code 4 = .ok (.sipush 223, 3) := by decide +kernel
theorem d_Mo_sumUp_7 : decode prog_13_method_18_code 7 = .ok (.sipush 244, 3) := by decide +kernel
theorem d_Mo_sumUp_10 : decode prog_13_method_18_code 10 = .ok (.invokevirtual 140, 3) := by decide +kernel
theorem d_Mo_sumUp_13 : decode prog_13_method_18_code 13 = .ok (.aload_n 0, 1) := by decide +kernel
theorem d_Mo_sumUp_14 : decode prog_13_method_18_code 14 = .ok (.sipush 222, 3) := by decide +kernel
theorem d_Mo_sumUp_17 : decode prog_13_method_18_code 17 = .ok (.sipush 225, 3) := by decide +kernel
theorem d_Mo_sumUp_20 : decode prog_13_method_18_code 20 = .ok (.sipush 245, 3) := by decide +kernel
theorem d_Mo_sumUp_23 : decode prog_13_method_18_code 23 = .ok (.invokevirtual 140, 3) := by decide +kernel
theorem d_Mo_sumUp_26 : decode prog_13_method_18_code 26 = .ok (.aload_n 0, 1) := by decide +kernel
theorem d_Mo_sumUp_27 : decode prog_13_method_18_code 27 = .ok (.sipush 244, 3) := by decide +kernel
theorem d_Mo_sumUp_30 : decode prog_13_method_18_code 30 = .ok (.sipush 245, 3) := by decide +kernel
theorem d_Mo_sumUp_33 : decode prog_13_method_18_code 33 = .ok (.sipush 244, 3) := by decide +kernel
theorem d_Mo_sumUp_36 : decode prog_13_method_18_code 36 = .ok (.invokevirtual 143, 3) := by decide +kernel
theorem d_Mo_sumUp_39 : decode prog_13_method_18_code 39 = .ok (.aload_n 0, 1) := by decide +kernel
theorem d_Mo_sumUp_40 : decode prog_13_method_18_code 40 = .ok (.sipush 225, 3) := by decide +kernel
theorem d_Mo_sumUp_43 : decode prog_13_method_18_code 43 = .ok (.sipush 223, 3) := by decide +kernel
theorem d_Mo_sumUp_46 : decode prog_13_method_18_code 46 = .ok (.sipush 245, 3) := by decide +kernel
theorem d_Mo_sumUp_49 : decode prog_13_method_18_code 49 = .ok (.invokevirtual 140, 3) := by decide +kernel
theorem d_Mo_sumUp_52 : decode prog_13_method_18_code 52 = .ok (.aload_n 0, 1) := by decide +kernel
theorem d_Mo_sumUp_53 : decode prog_13_method_18_code 53 = .ok (.sipush 244, 3) := by decide +kernel
theorem d_Mo_sumUp_56 : decode prog_13_method_18_code 56 = .ok (.sipush 224, 3) := by decide +kernel
theorem d_Mo_sumUp_59 : decode prog_13_method_18_code 59 = .ok (.invokevirtual 106, 3) := by decide +kernel
theorem d_Mo_sumUp_62 : decode prog_13_method_18_code 62 = .ok (.aload_n 0, 1) := by decide +kernel
theorem d_Mo_sumUp_63 : decode prog_13_method_18_code 63 = .ok (.sipush 245, 3) := by decide +kernel
theorem d_Mo_sumUp_66 : decode prog_13_method_18_code 66 = .ok (.sipush 225, 3) := by decide +kernel
theorem d_Mo_sumUp_69 : decode prog_13_method_18_code 69 = .ok (.invokevirtual 106, 3) := by decide +kernel
theorem d_Mo_sumUp_72 : decode prog_13_method_18_code 72 = .ok (.aload_n 0, 1) := by decide +kernel
theorem d_Mo_sumUp_73 : decode prog_13_method_18_code 73 = .ok (.bipush 112, 2) := by decide +kernel
theorem d_Mo_sumUp_75 : decode prog_13_method_18_code 75 = .ok (.invokevirtual 137, 3) := by decide +kernel
theorem d_Mo_sumUp_78 : decode prog_13_method_18_code 78 = .ok (.return_, 1) := by decide +kernel
theorem d_Mo_sumCube_0 : decode prog_13_method_19_code 0 = .ok (.aload_n 0, 1) := by decide +kernel
theorem d_Mo_sumCube_1 : decode prog_13_method_19_code 1 = .ok (.getfield 13, 3) := by decide +kernel
theorem d_Mo_sumCube_4 : decode prog_13_method_19_code 4 = .ok (.iconst 2, 1) := by decide +kernel
theorem d_Mo_sumCube_5 : decode prog_13_method_19_code 5 = .ok (.iload_n 1, 1) := by decide +kernel
theorem d_Mo_sumCube_6 : decode prog_13_method_19_code 6 = .ok (.imul, 1) := by decide +kernel
theorem d_Mo_sumCube_7 : decode prog_13_method_19_code 7 = .ok (.iaload, 1) := by decide +kernel
theorem d_Mo_sumCube_8 : decode prog_13_method_19_code 8 = .ok (.ifCond .ne 4, 3) := by decide +kernel
theorem d_Mo_sumCube_11 : decode prog_13_method_19_code 11 = .ok (.return_, 1) := by decide +kernel
theorem d_Mo_sumCube_12 : decode prog_13_method_19_code 12 = .ok (.aload_n 0, 1) := by decide +kernel
theorem d_Mo_sumCube_13 : decode prog_13_method_19_code 13 = .ok (.iconst 2, 1) := by decide +kernel
theorem d_Mo_sumCube_14 : decode prog_13_method_19_code 14 = .ok (.iload_n 1, 1) := by decide +kernel
theorem d_Mo_sumCube_15 : decode prog_13_method_19_code 15 = .ok (.imul, 1) := by decide +kernel
theorem d_Mo_sumCube_16 : decode prog_13_method_19_code 16 = .ok (.iconst 2, 1) := by decide +kernel
theorem d_Mo_sumCube_17 : decode prog_13_method_19_code 17 = .ok (.iload_n 1, 1) := by decide +kernel
theorem d_Mo_sumCube_18 : decode prog_13_method_19_code 18 = .ok (.imul, 1) := by decide +kernel
theorem d_Mo_sumCube_19 : decode prog_13_method_19_code 19 = .ok (.sipush 244, 3) := by decide +kernel
theorem d_Mo_sumCube_22 : decode prog_13_method_19_code 22 = .ok (.invokevirtual 140, 3) := by decide +kernel
theorem d_Mo_sumCube_25 : decode prog_13_method_19_code 25 = .ok (.aload_n 0, 1) := by decide +kernel
theorem d_Mo_sumCube_26 : decode prog_13_method_19_code 26 = .ok (.sipush 244, 3) := by decide +kernel
theorem d_Mo_sumCube_29 : decode prog_13_method_19_code 29 = .ok (.iconst 2, 1) := by decide +kernel
theorem d_Mo_sumCube_30 : decode prog_13_method_19_code 30 = .ok (.iload_n 1, 1) := by decide +kernel
theorem d_Mo_sumCube_31 : decode prog_13_method_19_code 31 = .ok (.imul, 1) := by decide +kernel
theorem d_Mo_sumCube_32 : decode prog_13_method_19_code 32 = .ok (.sipush 222, 3) := by decide +kernel
theorem d_Mo_sumCube_35 : decode prog_13_method_19_code 35 = .ok (.invokevirtual 140, 3) := by decide +kernel
theorem d_Mo_sumCube_38 : decode prog_13_method_19_code 38 = .ok (.aload_n 0, 1) := by decide +kernel
theorem d_Mo_sumCube_39 : decode prog_13_method_19_code 39 = .ok (.sipush 222, 3) := by decide +kernel
theorem d_Mo_sumCube_42 : decode prog_13_method_19_code 42 = .ok (.iload_n 2, 1) := by decide +kernel
theorem d_Mo_sumCube_43 : decode prog_13_method_19_code 43 = .ok (.invokevirtual 124, 3) := by decide +kernel
theorem d_Mo_sumCube_46 : decode prog_13_method_19_code 46 = .ok (.aload_n 0, 1) := by decide +kernel
theorem d_Mo_sumCube_47 : decode prog_13_method_19_code 47 = .ok (.iconst 2, 1) := by decide +kernel
theorem d_Mo_sumCube_48 : decode prog_13_method_19_code 48 = .ok (.iload_n 1, 1) := by decide +kernel
theorem d_Mo_sumCube_49 : decode prog_13_method_19_code 49 = .ok (.imul, 1) := by decide +kernel
theorem d_Mo_sumCube_50 : decode prog_13_method_19_code 50 = .ok (.iconst 1, 1) := by decide +kernel
theorem d_Mo_sumCube_51 : decode prog_13_method_19_code 51 = .ok (.iadd, 1) := by decide +kernel
theorem d_Mo_sumCube_52 : decode prog_13_method_19_code 52 = .ok (.iconst 2, 1) := by decide +kernel
theorem d_Mo_sumCube_53 : decode prog_13_method_19_code 53 = .ok (.iload_n 1, 1) := by decide +kernel
theorem d_Mo_sumCube_54 : decode prog_13_method_19_code 54 = .ok (.imul, 1) := by decide +kernel
theorem d_Mo_sumCube_55 : decode prog_13_method_19_code 55 = .ok (.iconst 1, 1) := by decide +kernel
theorem d_Mo_sumCube_56 : decode prog_13_method_19_code 56 = .ok (.iadd, 1) := by decide +kernel
theorem d_Mo_sumCube_57 : decode prog_13_method_19_code 57 = .ok (.sipush 244, 3) := by decide +kernel
theorem d_Mo_sumCube_60 : decode prog_13_method_19_code 60 = .ok (.invokevirtual 140, 3) := by decide +kernel
theorem d_Mo_sumCube_63 : decode prog_13_method_19_code 63 = .ok (.aload_n 0, 1) := by decide +kernel
theorem d_Mo_sumCube_64 : decode prog_13_method_19_code 64 = .ok (.sipush 244, 3) := by decide +kernel
theorem d_Mo_sumCube_67 : decode prog_13_method_19_code 67 = .ok (.iconst 2, 1) := by decide +kernel
theorem d_Mo_sumCube_68 : decode prog_13_method_19_code 68 = .ok (.iload_n 1, 1) := by decide +kernel
theorem d_Mo_sumCube_69 : decode prog_13_method_19_code 69 = .ok (.imul, 1) := by decide +kernel
theorem d_Mo_sumCube_70 : decode prog_13_method_19_code 70 = .ok (.iconst 1, 1) := by decide +kernel
theorem d_Mo_sumCube_71 : decode prog_13_method_19_code 71 = .ok (.iadd, 1) := by decide +kernel
theorem d_Mo_sumCube_72 : decode prog_13_method_19_code 72 = .ok (.sipush 223, 3) := by decide +kernel
theorem d_Mo_sumCube_75 : decode prog_13_method_19_code 75 = .ok (.invokevirtual 140, 3) := by decide +kernel
theorem d_Mo_sumCube_78 : decode prog_13_method_19_code 78 = .ok (.aload_n 0, 1) := by decide +kernel
theorem d_Mo_sumCube_79 : decode prog_13_method_19_code 79 = .ok (.bipush 111, 2) := by decide +kernel
theorem d_Mo_sumCube_81 : decode prog_13_method_19_code 81 = .ok (.invokevirtual 137, 3) := by decide +kernel
theorem d_Mo_sumCube_84 : decode prog_13_method_19_code 84 = .ok (.aload_n 0, 1) := by decide +kernel
theorem d_Mo_sumCube_85 : decode prog_13_method_19_code 85 = .ok (.invokevirtual 146, 3) := by decide +kernel
theorem d_Mo_sumCube_88 : decode prog_13_method_19_code 88 = .ok (.return_, 1) := by decide +kernel
theorem d_Mo_keep_0 : decode prog_13_method_20_code 0 = .ok (.aload_n 0, 1) := by decide +kernel
theorem d_Mo_keep_1 : decode prog_13_method_20_code 1 = .ok (.iconst 2, 1) := by decide +kernel
theorem d_Mo_keep_2 : decode prog_13_method_20_code 2 = .ok (.iload_n 1, 1) := by decide +kernel
theorem d_Mo_keep_3 : decode prog_13_method_20_code 3 = .ok (.imul, 1) := by decide +kernel
theorem d_Mo_keep_4 : decode prog_13_method_20_code 4 = .ok (.iconst 2, 1) := by decide +kernel
theorem d_Mo_keep_5 : decode prog_13_method_20_code 5 = .ok (.iload_n 2, 1) := by decide +kernel
theorem d_Mo_keep_6 : decode prog_13_method_20_code 6 = .ok (.imul, 1) := by decide +kernel
theorem d_Mo_keep_7 : decode prog_13_method_20_code 7 = .ok (.invokevirtual 106, 3) := by decide +kernel
theorem d_Mo_keep_10 : decode prog_13_method_20_code 10 = .ok (.aload_n 0, 1) := by decide +kernel
theorem d_Mo_keep_11 : decode prog_13_method_20_code 11 = .ok (.iconst 2, 1) := by decide +kernel
theorem d_Mo_keep_12 : decode prog_13_method_20_code 12 = .ok (.iload_n 1, 1) := by decide +kernel
theorem d_Mo_keep_13 : decode prog_13_method_20_code 13 = .ok (.imul, 1) := by decide +kernel
theorem d_Mo_keep_14 : decode prog_13_method_20_code 14 = .ok (.iconst 1, 1) := by decide +kernel
theorem d_Mo_keep_15 : decode prog_13_method_20_code 15 = .ok (.iadd, 1) := by decide +kernel
theorem d_Mo_keep_16 : decode prog_13_method_20_code 16 = .ok (.iconst 2, 1) := by decide +kernel
theorem d_Mo_keep_17 : decode prog_13_method_20_code 17 = .ok (.iload_n 2, 1) := by decide +kernel
theorem d_Mo_keep_18 : decode prog_13_method_20_code 18 = .ok (.imul, 1) := by decide +kernel
theorem d_Mo_keep_19 : decode prog_13_method_20_code 19 = .ok (.iconst 1, 1) := by decide +kernel
theorem d_Mo_keep_20 : decode prog_13_method_20_code 20 = .ok (.iadd, 1) := by decide +kernel
theorem d_Mo_keep_21 : decode prog_13_method_20_code 21 = .ok (.invokevirtual 106, 3) := by decide +kernel
theorem d_Mo_keep_24 : decode prog_13_method_20_code 24 = .ok (.return_, 1) := by decide +kernel
theorem d_Mo_isSame_0 : decode prog_13_method_21_code 0 = .ok (.aload_n 0, 1) := by decide +kernel
theorem d_Mo_isSame_1 : decode prog_13_method_21_code 1 = .ok (.iconst 2, 1) := by decide +kernel
theorem d_Mo_isSame_2 : decode prog_13_method_21_code 2 = .ok (.iload_n 1, 1) := by decide +kernel
theorem d_Mo_isSame_3 : decode prog_13_method_21_code 3 = .ok (.imul, 1) := by decide +kernel
theorem d_Mo_isSame_4 : decode prog_13_method_21_code 4 = .ok (.iconst 2, 1) := by decide +kernel
theorem d_Mo_isSame_5 : decode prog_13_method_21_code 5 = .ok (.iload_n 2, 1) := by decide +kernel
theorem d_Mo_isSame_6 : decode prog_13_method_21_code 6 = .ok (.imul, 1) := by decide +kernel
theorem d_Mo_isSame_7 : decode prog_13_method_21_code 7 = .ok (.invokevirtual 117, 3) := by decide +kernel
theorem d_Mo_isSame_10 : decode prog_13_method_21_code 10 = .ok (.ifCond .ne 24, 3) := by decide +kernel
theorem d_Mo_isSame_13 : decode prog_13_method_21_code 13 = .ok (.aload_n 0, 1) := by decide +kernel
theorem d_Mo_isSame_14 : decode prog_13_method_21_code 14 = .ok (.iconst 2, 1) := by decide +kernel
theorem d_Mo_isSame_15 : decode prog_13_method_21_code 15 = .ok (.iload_n 1, 1) := by decide +kernel
theorem d_Mo_isSame_16 : decode prog_13_method_21_code 16 = .ok (.imul, 1) := by decide +kernel
theorem d_Mo_isSame_17 : decode prog_13_method_21_code 17 = .ok (.iconst 1, 1) := by decide +kernel
theorem d_Mo_isSame_18 : decode prog_13_method_21_code 18 = .ok (.iadd, 1) := by decide +kernel
theorem d_Mo_isSame_19 : decode prog_13_method_21_code 19 = .ok (.iconst 2, 1) := by decide +kernel
theorem d_Mo_isSame_20 : decode prog_13_method_21_code 20 = .ok (.iload_n 2, 1) := by decide +kernel
theorem d_Mo_isSame_21 : decode prog_13_method_21_code 21 = .ok (.imul, 1) := by decide +kernel
theorem d_Mo_isSame_22 : decode prog_13_method_21_code 22 = .ok (.iconst 1, 1) := by decide +kernel
theorem d_Mo_isSame_23 : decode prog_13_method_21_code 23 = .ok (.iadd, 1) := by decide +kernel
theorem d_Mo_isSame_24 : decode prog_13_method_21_code 24 = .ok (.invokevirtual 117, 3) := by decide +kernel
theorem d_Mo_isSame_27 : decode prog_13_method_21_code 27 = .ok (.ifCond .ne 7, 3) := by decide +kernel
theorem d_Mo_isSame_30 : decode prog_13_method_21_code 30 = .ok (.iconst 1, 1) := by decide +kernel
theorem d_Mo_isSame_31 : decode prog_13_method_21_code 31 = .ok (.goto 4, 3) := by decide +kernel
theorem d_Mo_isSame_34 : decode prog_13_method_21_code 34 = .ok (.iconst 0, 1) := by decide +kernel
theorem d_Mo_isSame_35 : decode prog_13_method_21_code 35 = .ok (.ireturn, 1) := by decide +kernel
theorem d_Mo_in_0 : decode prog_13_method_22_code 0 = .ok (.iload_n 0, 1) := by decide +kernel
theorem d_Mo_in_1 : decode prog_13_method_22_code 1 = .ok (.iload_n 1, 1) := by decide +kernel
theorem d_Mo_in_2 : decode prog_13_method_22_code 2 = .ok (.if_icmp .lt 12, 3) := by decide +kernel
theorem d_Mo_in_5 : decode prog_13_method_22_code 5 = .ok (.iload_n 0, 1) := by decide +kernel
theorem d_Mo_in_6 : decode prog_13_method_22_code 6 = .ok (.iload_n 2, 1) := by decide +kernel
theorem d_Mo_in_7 : decode prog_13_method_22_code 7 = .ok (.if_icmp .gt 7, 3) := by decide +kernel
theorem d_Mo_in_10 : decode prog_13_method_22_code 10 = .ok (.iconst 1, 1) := by decide +kernel
theorem d_Mo_in_11 : decode prog_13_method_22_code 11 = .ok (.goto 4, 3) := by decide +kernel
theorem d_Mo_in_14 : decode prog_13_method_22_code 14 = .ok (.iconst 0, 1) := by decide +kernel
theorem d_Mo_in_15 : decode prog_13_method_22_code 15 = .ok (.ireturn, 1) := by decide +kernel
theorem d_Mo_thrown_0 : decode prog_13_method_2_code 0 = .ok (.aload_n 0, 1) := by decide +kernel
theorem d_Mo_thrown_1 : decode prog_13_method_2_code 1 = .ok (.getfield 91, 3) := by decide +kernel
theorem d_Mo_thrown_4 : decode prog_13_method_2_code 4 = .ok (.ireturn, 1) := by decide +kernel
section SEG
variable {g : GG} {Q : Option VV → EE → DD → Prop} {D : DD}
theorem s_Mo_set_0 {x1 : Int} {x2 : Int}  (h : ((0 ≤ x1 ∧ x1 < 260)) ∧ (∀ D2, D2 = zw D 710 x1 0 → Sg g M_Mo_set Q 10 [vR 708, vI x1, vL x2, vU, vL x2, vU] [] D2)) : Sg g M_Mo_set Q 0 [vR 708, vI x1, vL x2, vU, vU, vU] [] D := by
  unfold Sg
  obtain ⟨o1, h⟩ := h
  refine q_lload_n d_Mo_set_0 rfl ?_
  refine q_lstore d_Mo_set_1 (by decide) (L' := [vR 708, vI x1, vL x2, vU, vL x2, vU]) rfl ?_
  refine q_aload_n d_Mo_set_3 rfl ?_
  refine p_getR (k := 2) (b := 710) zc_Mo l_Mo_13 fr_Mo_sizes d_Mo_set_4 zk_708 rfl ?_
  refine q_iload_n d_Mo_set_7 rfl ?_
  refine q_iconst d_Mo_set_8 (by decide) ?_
  refine p_iast d_Mo_set_9 zk_710 o1 (fun D2 e3 => ?_)
  have h := h D2 e3
  exact h
theorem s_Mo_set_10 {x1 : Int} {z2 : VV} {z3 : VV} {x4 : Int}  (h : ((x4 ≤ 0 → Q none zE D) ∧ (¬ x4 ≤ 0 → (R32 (100 * x1) ∧ (0 ≤ x1 ∧ x1 < 260) ∧ R32 ((100 * x1) + (D 710 x1)) ∧ 0 ≤ x4 ∧ R32 (x4 % 16777216) ∧ (0 ≤ (100 * x1) + (D 710 x1) ∧ (100 * x1) + (D 710 x1) < 26000)) ∧ (∀ D8, D8 = zw D 709 ((100 * x1) + (D 710 x1)) (x4 % 16777216) → (0 ≤ x4 ∧ (0 ≤ x1 ∧ x1 < 260) ∧ R32 ((D8 710 x1) + 1) ∧ (0 ≤ x1 ∧ x1 < 260)) ∧ (∀ D14, D14 = zw D8 710 x1 ((D8 710 x1) + 1) → Sg g M_Mo_set Q 10 [vR 708, vI x1, vU, vU, vL (x4 / 16777216), vU] [] D14))))) : Sg g M_Mo_set Q 10 [vR 708, vI x1, z2, z3, vL x4, vU] [] D := by
  unfold Sg
  refine q_mask [false, false, true, true, false, false] (L' := [vR 708, vI x1, vU, vU, vL x4, vU]) rfl ?_
  refine q_lload d_Mo_set_10 rfl ?_
  refine q_lconst (x := 0) d_Mo_set_12 ⟨rfl, by decide⟩ ?_
  refine q_lcmp d_Mo_set_13 ?_
  refine q_if_le (tgt := 61) d_Mo_set_14 (by decide) (fun c1 => ?_) (fun c1 => ?_)
  · have h := h.1 (zcmp_le.mp c1)
    exact q_vret d_Mo_set_61 rfl ⟨Nat.le_refl _, Nat.le_refl _⟩ h
  · have h := h.2 ((not_congr zcmp_le).mp c1)
    obtain ⟨⟨o2, o3, o4, o5, o6, o7⟩, h⟩ := h
    refine q_aload_n d_Mo_set_17 rfl ?_
    refine p_getR (k := 1) (b := 709) zc_Mo l_Mo_7 fr_Mo_cells d_Mo_set_18 zk_708 rfl ?_
    refine q_bipush d_Mo_set_21 kb_100 ?_
    refine q_iload_n d_Mo_set_23 rfl ?_
    refine q_imul d_Mo_set_24 o2 ?_
    refine q_aload_n d_Mo_set_25 rfl ?_
    refine p_getR (k := 2) (b := 710) zc_Mo l_Mo_13 fr_Mo_sizes d_Mo_set_26 zk_708 rfl ?_
    refine q_iload_n d_Mo_set_29 rfl ?_
    refine p_iald d_Mo_set_30 zk_710 o3 ?_
    refine q_iadd d_Mo_set_31 o4 ?_
    refine q_lload d_Mo_set_32 rfl ?_
    refine q_ldc2 (x := 16777216) l_Mo_95 d_Mo_set_34 (by decide) ?_
    refine q_lrem d_Mo_set_37 ⟨o5, by decide⟩ ?_
    refine q_l2i d_Mo_set_38 o6 ?_
    refine p_iast d_Mo_set_39 zk_709 o7 (fun D8 e9 => ?_)
    have h := h D8 e9
    obtain ⟨⟨o10, o11, o12, o13⟩, h⟩ := h
    refine q_lload d_Mo_set_40 rfl ?_
    refine q_ldc2 (x := 16777216) l_Mo_95 d_Mo_set_42 (by decide) ?_
    refine q_ldiv d_Mo_set_45 ⟨o10, by decide⟩ ?_
    refine q_lstore d_Mo_set_46 (by decide) (L' := [vR 708, vI x1, vU, vU, vL (x4 / 16777216), vU]) rfl ?_
    refine q_aload_n d_Mo_set_48 rfl ?_
    refine p_getR (k := 2) (b := 710) zc_Mo l_Mo_13 fr_Mo_sizes d_Mo_set_49 zk_708 rfl ?_
    refine q_iload_n d_Mo_set_52 rfl ?_
    refine q_dup2 d_Mo_set_53 ⟨rfl, rfl⟩ ?_
    refine p_iald d_Mo_set_54 zk_710 o11 ?_
    refine q_iconst d_Mo_set_55 (by decide) ?_
    refine q_iadd d_Mo_set_56 o12 ?_
    refine p_iast d_Mo_set_57 zk_710 o13 (fun D14 e15 => ?_)
    have h := h D14 e15
    refine q_goto (tgt := 10) d_Mo_set_58 (by decide) ?_
    exact h
theorem s_Mo_copy_0 {x1 : Int} {x2 : Int}  (h : ((0 ≤ x1 ∧ x1 < 260) ∧ (0 ≤ x2 ∧ x2 < 260)) ∧ (∀ D3, D3 = zw D 710 x2 (D 710 x1) → Sg g M_Mo_copy Q 14 [vR 708, vI x1, vI x2, vI 0] [] D3)) : Sg g M_Mo_copy Q 0 [vR 708, vI x1, vI x2, vU] [] D := by
  unfold Sg
  obtain ⟨⟨o1, o2⟩, h⟩ := h
  refine q_aload_n d_Mo_copy_0 rfl ?_
  refine p_getR (k := 2) (b := 710) zc_Mo l_Mo_13 fr_Mo_sizes d_Mo_copy_1 zk_708 rfl ?_
  refine q_iload_n d_Mo_copy_4 rfl ?_
  refine q_aload_n d_Mo_copy_5 rfl ?_
  refine p_getR (k := 2) (b := 710) zc_Mo l_Mo_13 fr_Mo_sizes d_Mo_copy_6 zk_708 rfl ?_
  refine q_iload_n d_Mo_copy_9 rfl ?_
  refine p_iald d_Mo_copy_10 zk_710 o1 ?_
  refine p_iast d_Mo_copy_11 zk_710 o2 (fun D3 e4 => ?_)
  have h := h D3 e4
  refine q_iconst d_Mo_copy_12 (by decide) ?_
  refine q_istore_n d_Mo_copy_13 (by decide) (L' := [vR 708, vI x1, vI x2, vI 0]) rfl ?_
  exact h
theorem s_Mo_copy_14 {x1 : Int} {x2 : Int} {x3 : Int}  (h : ((0 ≤ x1 ∧ x1 < 260)) ∧ (((D 710 x1) ≤ x3 → Q none zE D) ∧ (¬ (D 710 x1) ≤ x3 → (R32 (100 * x2) ∧ R32 ((100 * x2) + x3) ∧ R32 (100 * x1) ∧ R32 ((100 * x1) + x3) ∧ (0 ≤ (100 * x1) + x3 ∧ (100 * x1) + x3 < 26000) ∧ (0 ≤ (100 * x2) + x3 ∧ (100 * x2) + x3 < 26000)) ∧ (∀ D9, D9 = zw D 709 ((100 * x2) + x3) (D 709 ((100 * x1) + x3)) → (R32 (x3 + 1)) ∧ Sg g M_Mo_copy Q 14 [vR 708, vI x1, vI x2, vI (x3 + 1)] [] D9)))) : Sg g M_Mo_copy Q 14 [vR 708, vI x1, vI x2, vI x3] [] D := by
  unfold Sg
  obtain ⟨o1, h⟩ := h
  refine q_iload_n d_Mo_copy_14 rfl ?_
  refine q_aload_n d_Mo_copy_15 rfl ?_
  refine p_getR (k := 2) (b := 710) zc_Mo l_Mo_13 fr_Mo_sizes d_Mo_copy_16 zk_708 rfl ?_
  refine q_iload_n d_Mo_copy_19 rfl ?_
  refine p_iald d_Mo_copy_20 zk_710 o1 ?_
  refine q_icmp_ge (tgt := 52) d_Mo_copy_21 (by decide) (fun c2 => ?_) (fun c2 => ?_)
  · have h := h.1 (c2)
    exact q_vret d_Mo_copy_52 rfl ⟨Nat.le_refl _, Nat.le_refl _⟩ h
  · have h := h.2 (c2)
    obtain ⟨⟨o3, o4, o5, o6, o7, o8⟩, h⟩ := h
    refine q_aload_n d_Mo_copy_24 rfl ?_
    refine p_getR (k := 1) (b := 709) zc_Mo l_Mo_7 fr_Mo_cells d_Mo_copy_25 zk_708 rfl ?_
    refine q_bipush d_Mo_copy_28 kb_100 ?_
    refine q_iload_n d_Mo_copy_30 rfl ?_
    refine q_imul d_Mo_copy_31 o3 ?_
    refine q_iload_n d_Mo_copy_32 rfl ?_
    refine q_iadd d_Mo_copy_33 o4 ?_
    refine q_aload_n d_Mo_copy_34 rfl ?_
    refine p_getR (k := 1) (b := 709) zc_Mo l_Mo_7 fr_Mo_cells d_Mo_copy_35 zk_708 rfl ?_
    refine q_bipush d_Mo_copy_38 kb_100 ?_
    refine q_iload_n d_Mo_copy_40 rfl ?_
    refine q_imul d_Mo_copy_41 o5 ?_
    refine q_iload_n d_Mo_copy_42 rfl ?_
    refine q_iadd d_Mo_copy_43 o6 ?_
    refine p_iald d_Mo_copy_44 zk_709 o7 ?_
    refine p_iast d_Mo_copy_45 zk_709 o8 (fun D9 e10 => ?_)
    have h := h D9 e10
    obtain ⟨o11, h⟩ := h
    refine q_iinc d_Mo_copy_46 rfl (by decide) o11 (L' := [vR 708, vI x1, vI x2, vI (x3 + 1)]) rfl ?_
    refine q_goto (tgt := 14) d_Mo_copy_49 (by decide) ?_
    exact h
theorem s_Mo_part_0 {x1 : Int} {x2 : Int}  (h : ((0 ≤ x1 ∧ x1 < 260)) ∧ (((D 710 x1) ≤ x2 → Q (some (vI 0)) zE D) ∧ (¬ (D 710 x1) ≤ x2 → (R32 (100 * x1) ∧ R32 ((100 * x1) + x2) ∧ (0 ≤ (100 * x1) + x2 ∧ (100 * x1) + x2 < 26000)) ∧ Q (some (vI (D 709 ((100 * x1) + x2)))) zE D))) : Sg g M_Mo_part Q 0 [vR 708, vI x1, vI x2] [] D := by
  unfold Sg
  obtain ⟨o1, h⟩ := h
  refine q_iload_n d_Mo_part_0 rfl ?_
  refine q_aload_n d_Mo_part_1 rfl ?_
  refine p_getR (k := 2) (b := 710) zc_Mo l_Mo_13 fr_Mo_sizes d_Mo_part_2 zk_708 rfl ?_
  refine q_iload_n d_Mo_part_5 rfl ?_
  refine p_iald d_Mo_part_6 zk_710 o1 ?_
  refine q_icmp_ge (tgt := 24) d_Mo_part_7 (by decide) (fun c2 => ?_) (fun c2 => ?_)
  · have h := h.1 (c2)
    refine q_iconst d_Mo_part_24 (by decide) ?_
    exact q_iret d_Mo_part_25 (Or.inl rfl) ⟨Nat.le_refl _, Nat.le_refl _⟩ h
  · have h := h.2 (c2)
    obtain ⟨⟨o3, o4, o5⟩, h⟩ := h
    refine q_aload_n d_Mo_part_10 rfl ?_
    refine p_getR (k := 1) (b := 709) zc_Mo l_Mo_7 fr_Mo_cells d_Mo_part_11 zk_708 rfl ?_
    refine q_bipush d_Mo_part_14 kb_100 ?_
    refine q_iload_n d_Mo_part_16 rfl ?_
    refine q_imul d_Mo_part_17 o3 ?_
    refine q_iload_n d_Mo_part_18 rfl ?_
    refine q_iadd d_Mo_part_19 o4 ?_
    refine p_iald d_Mo_part_20 zk_709 o5 ?_
    refine q_goto (tgt := 25) d_Mo_part_21 (by decide) ?_
    exact q_iret d_Mo_part_25 (Or.inl rfl) ⟨Nat.le_refl _, Nat.le_refl _⟩ h
theorem s_Mo_trim_0 {x1 : Int}  (h : ((0 ≤ x1 ∧ x1 < 260)) ∧ (((D 710 x1) ≤ 0 → Q none zE D) ∧ (¬ (D 710 x1) ≤ 0 → (R32 (100 * x1) ∧ (0 ≤ x1 ∧ x1 < 260) ∧ R32 ((100 * x1) + (D 710 x1)) ∧ R32 (((100 * x1) + (D 710 x1)) - 1) ∧ (0 ≤ ((100 * x1) + (D 710 x1)) - 1 ∧ ((100 * x1) + (D 710 x1)) - 1 < 26000)) ∧ ((¬ (D 709 (((100 * x1) + (D 710 x1)) - 1)) = 0 → Q none zE D) ∧ ((D 709 (((100 * x1) + (D 710 x1)) - 1)) = 0 → ((0 ≤ x1 ∧ x1 < 260) ∧ R32 ((D 710 x1) - 1) ∧ (0 ≤ x1 ∧ x1 < 260)) ∧ (∀ D12, D12 = zw D 710 x1 ((D 710 x1) - 1) → Sg g M_Mo_trim Q 0 [vR 708, vI x1] [] D12)))))) : Sg g M_Mo_trim Q 0 [vR 708, vI x1] [] D := by
  unfold Sg
  obtain ⟨o1, h⟩ := h
  refine q_aload_n d_Mo_trim_0 rfl ?_
  refine p_getR (k := 2) (b := 710) zc_Mo l_Mo_13 fr_Mo_sizes d_Mo_trim_1 zk_708 rfl ?_
  refine q_iload_n d_Mo_trim_4 rfl ?_
  refine p_iald d_Mo_trim_5 zk_710 o1 ?_
  refine q_if_le (tgt := 43) d_Mo_trim_6 (by decide) (fun c2 => ?_) (fun c2 => ?_)
  · have h := h.1 (c2)
    exact q_vret d_Mo_trim_43 rfl ⟨Nat.le_refl _, Nat.le_refl _⟩ h
  · have h := h.2 (c2)
    obtain ⟨⟨o3, o4, o5, o6, o7⟩, h⟩ := h
    refine q_aload_n d_Mo_trim_9 rfl ?_
    refine p_getR (k := 1) (b := 709) zc_Mo l_Mo_7 fr_Mo_cells d_Mo_trim_10 zk_708 rfl ?_
    refine q_bipush d_Mo_trim_13 kb_100 ?_
    refine q_iload_n d_Mo_trim_15 rfl ?_
    refine q_imul d_Mo_trim_16 o3 ?_
    refine q_aload_n d_Mo_trim_17 rfl ?_
    refine p_getR (k := 2) (b := 710) zc_Mo l_Mo_13 fr_Mo_sizes d_Mo_trim_18 zk_708 rfl ?_
    refine q_iload_n d_Mo_trim_21 rfl ?_
    refine p_iald d_Mo_trim_22 zk_710 o4 ?_
    refine q_iadd d_Mo_trim_23 o5 ?_
    refine q_iconst d_Mo_trim_24 (by decide) ?_
    refine q_isub d_Mo_trim_25 o6 ?_
    refine p_iald d_Mo_trim_26 zk_709 o7 ?_
    refine q_if_ne (tgt := 43) d_Mo_trim_27 (by decide) (fun c8 => ?_) (fun c8 => ?_)
    · have h := h.1 (c8)
      exact q_vret d_Mo_trim_43 rfl ⟨Nat.le_refl _, Nat.le_refl _⟩ h
    · have h := h.2 (c8)
      obtain ⟨⟨o9, o10, o11⟩, h⟩ := h
      refine q_aload_n d_Mo_trim_30 rfl ?_
      refine p_getR (k := 2) (b := 710) zc_Mo l_Mo_13 fr_Mo_sizes d_Mo_trim_31 zk_708 rfl ?_
      refine q_iload_n d_Mo_trim_34 rfl ?_
      refine q_dup2 d_Mo_trim_35 ⟨rfl, rfl⟩ ?_
      refine p_iald d_Mo_trim_36 zk_710 o9 ?_
      refine q_iconst d_Mo_trim_37 (by decide) ?_
      refine q_isub d_Mo_trim_38 o10 ?_
      refine p_iast d_Mo_trim_39 zk_710 o11 (fun D12 e13 => ?_)
      have h := h D12 e13
      refine q_goto (tgt := 0) d_Mo_trim_40 (by decide) ?_
      exact h
theorem s_Mo_order_0 {x1 : Int} {x2 : Int}  (h : ((0 ≤ x1 ∧ x1 < 260) ∧ (0 ≤ x2 ∧ x2 < 260)) ∧ (((D 710 x1) = (D 710 x2) → ((0 ≤ x1 ∧ x1 < 260) ∧ R32 ((D 710 x1) - 1)) ∧ Sg g M_Mo_order Q 45 [vR 708, vI x1, vI x2, vI ((D 710 x1) - 1), vU, vU] [] D) ∧ (¬ (D 710 x1) = (D 710 x2) → ((0 ≤ x1 ∧ x1 < 260) ∧ (0 ≤ x2 ∧ x2 < 260)) ∧ (((D 710 x2) ≤ (D 710 x1) → Q (some (vI 1)) zE D) ∧ (¬ (D 710 x2) ≤ (D 710 x1) → Q (some (vI (-1))) zE D))))) : Sg g M_Mo_order Q 0 [vR 708, vI x1, vI x2, vU, vU, vU] [] D := by
  unfold Sg
  obtain ⟨⟨o1, o2⟩, h⟩ := h
  refine q_aload_n d_Mo_order_0 rfl ?_
  refine p_getR (k := 2) (b := 710) zc_Mo l_Mo_13 fr_Mo_sizes d_Mo_order_1 zk_708 rfl ?_
  refine q_iload_n d_Mo_order_4 rfl ?_
  refine p_iald d_Mo_order_5 zk_710 o1 ?_
  refine q_aload_n d_Mo_order_6 rfl ?_
  refine p_getR (k := 2) (b := 710) zc_Mo l_Mo_13 fr_Mo_sizes d_Mo_order_7 zk_708 rfl ?_
  refine q_iload_n d_Mo_order_10 rfl ?_
  refine p_iald d_Mo_order_11 zk_710 o2 ?_
  refine q_icmp_eq (tgt := 36) d_Mo_order_12 (by decide) (fun c3 => ?_) (fun c3 => ?_)
  · have h := h.1 (c3)
    obtain ⟨⟨o4, o5⟩, h⟩ := h
    refine q_aload_n d_Mo_order_36 rfl ?_
    refine p_getR (k := 2) (b := 710) zc_Mo l_Mo_13 fr_Mo_sizes d_Mo_order_37 zk_708 rfl ?_
    refine q_iload_n d_Mo_order_40 rfl ?_
    refine p_iald d_Mo_order_41 zk_710 o4 ?_
    refine q_iconst d_Mo_order_42 (by decide) ?_
    refine q_isub d_Mo_order_43 o5 ?_
    refine q_istore_n d_Mo_order_44 (by decide) (L' := [vR 708, vI x1, vI x2, vI ((D 710 x1) - 1), vU, vU]) rfl ?_
    exact h
  · have h := h.2 (c3)
    obtain ⟨⟨o6, o7⟩, h⟩ := h
    refine q_aload_n d_Mo_order_15 rfl ?_
    refine p_getR (k := 2) (b := 710) zc_Mo l_Mo_13 fr_Mo_sizes d_Mo_order_16 zk_708 rfl ?_
    refine q_iload_n d_Mo_order_19 rfl ?_
    refine p_iald d_Mo_order_20 zk_710 o6 ?_
    refine q_aload_n d_Mo_order_21 rfl ?_
    refine p_getR (k := 2) (b := 710) zc_Mo l_Mo_13 fr_Mo_sizes d_Mo_order_22 zk_708 rfl ?_
    refine q_iload_n d_Mo_order_25 rfl ?_
    refine p_iald d_Mo_order_26 zk_710 o7 ?_
    refine q_icmp_ge (tgt := 34) d_Mo_order_27 (by decide) (fun c8 => ?_) (fun c8 => ?_)
    · have h := h.1 (c8)
      refine q_iconst d_Mo_order_34 (by decide) ?_
      exact q_iret d_Mo_order_35 (Or.inl rfl) ⟨Nat.le_refl _, Nat.le_refl _⟩ h
    · have h := h.2 (c8)
      refine q_iconst d_Mo_order_30 (by decide) ?_
      refine q_goto (tgt := 35) d_Mo_order_31 (by decide) ?_
      exact q_iret d_Mo_order_35 (Or.inl rfl) ⟨Nat.le_refl _, Nat.le_refl _⟩ h
theorem s_Mo_order_45 {x1 : Int} {x2 : Int} {x3 : Int} {z4 : VV} {z5 : VV}  (h : ((x3 < 0 → Q (some (vI 0)) zE D) ∧ (¬ x3 < 0 → (R32 (100 * x1) ∧ R32 ((100 * x1) + x3) ∧ (0 ≤ (100 * x1) + x3 ∧ (100 * x1) + x3 < 26000) ∧ R32 (100 * x2) ∧ R32 ((100 * x2) + x3) ∧ (0 ≤ (100 * x2) + x3 ∧ (100 * x2) + x3 < 26000)) ∧ (((D 709 ((100 * x1) + x3)) = (D 709 ((100 * x2) + x3)) → (R32 (x3 + (-1))) ∧ Sg g M_Mo_order Q 45 [vR 708, vI x1, vI x2, vI (x3 + (-1)), vI (D 709 ((100 * x1) + x3)), vI (D 709 ((100 * x2) + x3))] [] D) ∧ (¬ (D 709 ((100 * x1) + x3)) = (D 709 ((100 * x2) + x3)) → (((D 709 ((100 * x2) + x3)) ≤ (D 709 ((100 * x1) + x3)) → Q (some (vI 1)) zE D) ∧ (¬ (D 709 ((100 * x2) + x3)) ≤ (D 709 ((100 * x1) + x3)) → Q (some (vI (-1))) zE D))))))) : Sg g M_Mo_order Q 45 [vR 708, vI x1, vI x2, vI x3, z4, z5] [] D := by
  unfold Sg
  refine q_mask [false, false, false, false, true, true] (L' := [vR 708, vI x1, vI x2, vI x3, vU, vU]) rfl ?_
  refine q_iload_n d_Mo_order_45 rfl ?_
  refine q_if_lt (tgt := 101) d_Mo_order_46 (by decide) (fun c1 => ?_) (fun c1 => ?_)
  · have h := h.1 (c1)
    refine q_iconst d_Mo_order_101 (by decide) ?_
    exact q_iret d_Mo_order_102 (Or.inl rfl) ⟨Nat.le_refl _, Nat.le_refl _⟩ h
  · have h := h.2 (c1)
    obtain ⟨⟨o2, o3, o4, o5, o6, o7⟩, h⟩ := h
    refine q_aload_n d_Mo_order_49 rfl ?_
    refine p_getR (k := 1) (b := 709) zc_Mo l_Mo_7 fr_Mo_cells d_Mo_order_50 zk_708 rfl ?_
    refine q_bipush d_Mo_order_53 kb_100 ?_
    refine q_iload_n d_Mo_order_55 rfl ?_
    refine q_imul d_Mo_order_56 o2 ?_
    refine q_iload_n d_Mo_order_57 rfl ?_
    refine q_iadd d_Mo_order_58 o3 ?_
    refine p_iald d_Mo_order_59 zk_709 o4 ?_
    refine q_istore d_Mo_order_60 (by decide) (L' := [vR 708, vI x1, vI x2, vI x3, vI (D 709 ((100 * x1) + x3)), vU]) rfl ?_
    refine q_aload_n d_Mo_order_62 rfl ?_
    refine p_getR (k := 1) (b := 709) zc_Mo l_Mo_7 fr_Mo_cells d_Mo_order_63 zk_708 rfl ?_
    refine q_bipush d_Mo_order_66 kb_100 ?_
    refine q_iload_n d_Mo_order_68 rfl ?_
    refine q_imul d_Mo_order_69 o5 ?_
    refine q_iload_n d_Mo_order_70 rfl ?_
    refine q_iadd d_Mo_order_71 o6 ?_
    refine p_iald d_Mo_order_72 zk_709 o7 ?_
    refine q_istore d_Mo_order_73 (by decide) (L' := [vR 708, vI x1, vI x2, vI x3, vI (D 709 ((100 * x1) + x3)), vI (D 709 ((100 * x2) + x3))]) rfl ?_
    refine q_iload d_Mo_order_75 rfl ?_
    refine q_iload d_Mo_order_77 rfl ?_
    refine q_icmp_eq (tgt := 95) d_Mo_order_79 (by decide) (fun c8 => ?_) (fun c8 => ?_)
    · have h := h.1 (c8)
      obtain ⟨o9, h⟩ := h
      refine q_iinc d_Mo_order_95 rfl (by decide) o9 (L' := [vR 708, vI x1, vI x2, vI (x3 + (-1)), vI (D 709 ((100 * x1) + x3)), vI (D 709 ((100 * x2) + x3))]) rfl ?_
      refine q_goto (tgt := 45) d_Mo_order_98 (by decide) ?_
      exact h
    · have h := h.2 (c8)
      refine q_iload d_Mo_order_82 rfl ?_
      refine q_iload d_Mo_order_84 rfl ?_
      refine q_icmp_ge (tgt := 93) d_Mo_order_86 (by decide) (fun c10 => ?_) (fun c10 => ?_)
      · have h := h.1 (c10)
        refine q_iconst d_Mo_order_93 (by decide) ?_
        exact q_iret d_Mo_order_94 (Or.inl rfl) ⟨Nat.le_refl _, Nat.le_refl _⟩ h
      · have h := h.2 (c10)
        refine q_iconst d_Mo_order_89 (by decide) ?_
        refine q_goto (tgt := 94) d_Mo_order_90 (by decide) ?_
        exact q_iret d_Mo_order_94 (Or.inl rfl) ⟨Nat.le_refl _, Nat.le_refl _⟩ h
theorem s_Mo_add_0 {x1 : Int} {x2 : Int} {x3 : Int}  (h : ((0 ≤ x1 ∧ x1 < 260) ∧ (0 ≤ x2 ∧ x2 < 260)) ∧ (((D 710 x1) ≤ (D 710 x2) → ((0 ≤ x2 ∧ x2 < 260)) ∧ Sg g M_Mo_add Q 30 [vR 708, vI x1, vI x2, vI x3, vU, vU, vU, vU] [vI (D 710 x2)] D) ∧ (¬ (D 710 x1) ≤ (D 710 x2) → ((0 ≤ x1 ∧ x1 < 260)) ∧ Sg g M_Mo_add Q 30 [vR 708, vI x1, vI x2, vI x3, vU, vU, vU, vU] [vI (D 710 x1)] D))) : Sg g M_Mo_add Q 0 [vR 708, vI x1, vI x2, vI x3, vU, vU, vU, vU] [] D := by
  unfold Sg
  obtain ⟨⟨o1, o2⟩, h⟩ := h
  refine q_aload_n d_Mo_add_0 rfl ?_
  refine p_getR (k := 2) (b := 710) zc_Mo l_Mo_13 fr_Mo_sizes d_Mo_add_1 zk_708 rfl ?_
  refine q_iload_n d_Mo_add_4 rfl ?_
  refine p_iald d_Mo_add_5 zk_710 o1 ?_
  refine q_aload_n d_Mo_add_6 rfl ?_
  refine p_getR (k := 2) (b := 710) zc_Mo l_Mo_13 fr_Mo_sizes d_Mo_add_7 zk_708 rfl ?_
  refine q_iload_n d_Mo_add_10 rfl ?_
  refine p_iald d_Mo_add_11 zk_710 o2 ?_
  refine q_icmp_le (tgt := 24) d_Mo_add_12 (by decide) (fun c3 => ?_) (fun c3 => ?_)
  · have h := h.1 (c3)
    obtain ⟨o4, h⟩ := h
    refine q_aload_n d_Mo_add_24 rfl ?_
    refine p_getR (k := 2) (b := 710) zc_Mo l_Mo_13 fr_Mo_sizes d_Mo_add_25 zk_708 rfl ?_
    refine q_iload_n d_Mo_add_28 rfl ?_
    refine p_iald d_Mo_add_29 zk_710 o4 ?_
    exact h
  · have h := h.2 (c3)
    obtain ⟨o5, h⟩ := h
    refine q_aload_n d_Mo_add_15 rfl ?_
    refine p_getR (k := 2) (b := 710) zc_Mo l_Mo_13 fr_Mo_sizes d_Mo_add_16 zk_708 rfl ?_
    refine q_iload_n d_Mo_add_19 rfl ?_
    refine p_iald d_Mo_add_20 zk_710 o5 ?_
    refine q_goto (tgt := 30) d_Mo_add_21 (by decide) ?_
    exact h
theorem s_Mo_add_30 {x1 : Int} {x2 : Int} {x3 : Int} {z4 : VV} {z5 : VV} {z6 : VV} {z7 : VV} {y0 : Int}  (h : Sg g M_Mo_add Q 38 [vR 708, vI x1, vI x2, vI x3, vI y0, vI 0, vI 0, vU] [] D) : Sg g M_Mo_add Q 30 [vR 708, vI x1, vI x2, vI x3, z4, z5, z6, z7] [vI y0] D := by
  unfold Sg
  refine q_mask [false, false, false, false, true, true, true, true] (L' := [vR 708, vI x1, vI x2, vI x3, vU, vU, vU, vU]) rfl ?_
  refine q_istore d_Mo_add_30 (by decide) (L' := [vR 708, vI x1, vI x2, vI x3, vI y0, vU, vU, vU]) rfl ?_
  refine q_iconst d_Mo_add_32 (by decide) ?_
  refine q_istore d_Mo_add_33 (by decide) (L' := [vR 708, vI x1, vI x2, vI x3, vI y0, vI 0, vU, vU]) rfl ?_
  refine q_iconst d_Mo_add_35 (by decide) ?_
  refine q_istore d_Mo_add_36 (by decide) (L' := [vR 708, vI x1, vI x2, vI x3, vI y0, vI 0, vI 0, vU]) rfl ?_
  exact h
theorem s_Mo_add_38 {x1 : Int} {x2 : Int} {x3 : Int} {x4 : Int} {x5 : Int} {x6 : Int} {z7 : VV}  (h : ((x4 ≤ x6 → ((0 ≤ x3 ∧ x3 < 260)) ∧ (∀ D3, D3 = zw D 710 x3 x4 → ((x5 ≤ 0 → Q none zE D3) ∧ (¬ x5 ≤ 0 → (R32 (100 * x3) ∧ R32 ((100 * x3) + x4) ∧ (0 ≤ (100 * x3) + x4 ∧ (100 * x3) + x4 < 26000)) ∧ (∀ D9, D9 = zw D3 709 ((100 * x3) + x4) x5 → ((0 ≤ x3 ∧ x3 < 260) ∧ R32 ((D9 710 x3) + 1) ∧ (0 ≤ x3 ∧ x3 < 260)) ∧ (∀ D14, D14 = zw D9 710 x3 ((D9 710 x3) + 1) → Q none zE D14)))))) ∧ (¬ x4 ≤ x6 → CI g M_Mo_part [vR 708, vI x1, vI x6] D (fun v16 D' => Sg g M_Mo_add Q 52 [vR 708, vI x1, vI x2, vI x3, vI x4, vI x5, vI x6, vU] [vI v16] D')))) : Sg g M_Mo_add Q 38 [vR 708, vI x1, vI x2, vI x3, vI x4, vI x5, vI x6, z7] [] D := by
  unfold Sg
  refine q_mask [false, false, false, false, false, false, false, true] (L' := [vR 708, vI x1, vI x2, vI x3, vI x4, vI x5, vI x6, vU]) rfl ?_
  refine q_iload d_Mo_add_38 rfl ?_
  refine q_iload d_Mo_add_40 rfl ?_
  refine q_icmp_ge (tgt := 95) d_Mo_add_42 (by decide) (fun c1 => ?_) (fun c1 => ?_)
  · have h := h.1 (c1)
    obtain ⟨o2, h⟩ := h
    refine q_aload_n d_Mo_add_95 rfl ?_
    refine p_getR (k := 2) (b := 710) zc_Mo l_Mo_13 fr_Mo_sizes d_Mo_add_96 zk_708 rfl ?_
    refine q_iload_n d_Mo_add_99 rfl ?_
    refine q_iload d_Mo_add_100 rfl ?_
    refine p_iast d_Mo_add_102 zk_710 o2 (fun D3 e4 => ?_)
    have h := h D3 e4
    refine q_iload d_Mo_add_103 rfl ?_
    refine q_if_le (tgt := 132) d_Mo_add_105 (by decide) (fun c5 => ?_) (fun c5 => ?_)
    · have h := h.1 (c5)
      exact q_vret d_Mo_add_132 rfl ⟨Nat.le_refl _, Nat.le_refl _⟩ h
    · have h := h.2 (c5)
      obtain ⟨⟨o6, o7, o8⟩, h⟩ := h
      refine q_aload_n d_Mo_add_108 rfl ?_
      refine p_getR (k := 1) (b := 709) zc_Mo l_Mo_7 fr_Mo_cells d_Mo_add_109 zk_708 rfl ?_
      refine q_bipush d_Mo_add_112 kb_100 ?_
      refine q_iload_n d_Mo_add_114 rfl ?_
      refine q_imul d_Mo_add_115 o6 ?_
      refine q_iload d_Mo_add_116 rfl ?_
      refine q_iadd d_Mo_add_118 o7 ?_
      refine q_iload d_Mo_add_119 rfl ?_
      refine p_iast d_Mo_add_121 zk_709 o8 (fun D9 e10 => ?_)
      have h := h D9 e10
      obtain ⟨⟨o11, o12, o13⟩, h⟩ := h
      refine q_aload_n d_Mo_add_122 rfl ?_
      refine p_getR (k := 2) (b := 710) zc_Mo l_Mo_13 fr_Mo_sizes d_Mo_add_123 zk_708 rfl ?_
      refine q_iload_n d_Mo_add_126 rfl ?_
      refine q_dup2 d_Mo_add_127 ⟨rfl, rfl⟩ ?_
      refine p_iald d_Mo_add_128 zk_710 o11 ?_
      refine q_iconst d_Mo_add_129 (by decide) ?_
      refine q_iadd d_Mo_add_130 o12 ?_
      refine p_iast d_Mo_add_131 zk_710 o13 (fun D14 e15 => ?_)
      have h := h D14 e15
      exact q_vret d_Mo_add_132 rfl ⟨Nat.le_refl _, Nat.le_refl _⟩ h
  · have h := h.2 (c1)
    refine q_aload_n d_Mo_add_45 rfl ?_
    refine q_iload_n d_Mo_add_46 rfl ?_
    refine q_iload d_Mo_add_47 rfl ?_
    refine p_callV (as := [vI x1, vI x6]) (st := []) (a := 708) mc_Mo_part mv_Mo_part l_Mo_97 zc_Mo rfl d_Mo_add_49 rfl rfl rfl zk_708 (CI.to ?_)
    exact h
theorem s_Mo_add_52 {x1 : Int} {x2 : Int} {x3 : Int} {x4 : Int} {x5 : Int} {x6 : Int} {z7 : VV} {y0 : Int}  (h : CI g M_Mo_part [vR 708, vI x2, vI x6] D (fun v1 D' => Sg g M_Mo_add Q 59 [vR 708, vI x1, vI x2, vI x3, vI x4, vI x5, vI x6, vU] [vI v1, vI y0] D')) : Sg g M_Mo_add Q 52 [vR 708, vI x1, vI x2, vI x3, vI x4, vI x5, vI x6, z7] [vI y0] D := by
  unfold Sg
  refine q_mask [false, false, false, false, false, false, false, true] (L' := [vR 708, vI x1, vI x2, vI x3, vI x4, vI x5, vI x6, vU]) rfl ?_
  refine q_aload_n d_Mo_add_52 rfl ?_
  refine q_iload_n d_Mo_add_53 rfl ?_
  refine q_iload d_Mo_add_54 rfl ?_
  refine p_callV (as := [vI x2, vI x6]) (st := [vI y0]) (a := 708) mc_Mo_part mv_Mo_part l_Mo_97 zc_Mo rfl d_Mo_add_56 rfl rfl rfl zk_708 (CI.to ?_)
  exact h
theorem s_Mo_add_59 {x1 : Int} {x2 : Int} {x3 : Int} {x4 : Int} {x5 : Int} {x6 : Int} {z7 : VV} {y0 : Int} {y1 : Int}  (h : (R32 (y1 + y0) ∧ R32 ((y1 + y0) + x5) ∧ 0 ≤ (y1 + y0) + x5 ∧ R32 (100 * x3) ∧ R32 ((100 * x3) + x6) ∧ 0 ≤ (y1 + y0) + x5 ∧ (0 ≤ (100 * x3) + x6 ∧ (100 * x3) + x6 < 26000)) ∧ (∀ D8, D8 = zw D 709 ((100 * x3) + x6) (((y1 + y0) + x5) % 16777216) → (R32 (x6 + 1)) ∧ Sg g M_Mo_add Q 38 [vR 708, vI x1, vI x2, vI x3, vI x4, vI (((y1 + y0) + x5) / 16777216), vI (x6 + 1), vI ((y1 + y0) + x5)] [] D8)) : Sg g M_Mo_add Q 59 [vR 708, vI x1, vI x2, vI x3, vI x4, vI x5, vI x6, z7] [vI y0, vI y1] D := by
  unfold Sg
  refine q_mask [false, false, false, false, false, false, false, true] (L' := [vR 708, vI x1, vI x2, vI x3, vI x4, vI x5, vI x6, vU]) rfl ?_
  obtain ⟨⟨o1, o2, o3, o4, o5, o6, o7⟩, h⟩ := h
  refine q_iadd d_Mo_add_59 o1 ?_
  refine q_iload d_Mo_add_60 rfl ?_
  refine q_iadd d_Mo_add_62 o2 ?_
  refine q_istore d_Mo_add_63 (by decide) (L' := [vR 708, vI x1, vI x2, vI x3, vI x4, vI x5, vI x6, vI ((y1 + y0) + x5)]) rfl ?_
  refine q_iload d_Mo_add_65 rfl ?_
  refine q_ldc (x := 16777216) l_Mo_101 d_Mo_add_67 (by decide) ?_
  refine q_idiv d_Mo_add_69 ⟨o3, by decide⟩ ?_
  refine q_istore d_Mo_add_70 (by decide) (L' := [vR 708, vI x1, vI x2, vI x3, vI x4, vI (((y1 + y0) + x5) / 16777216), vI x6, vI ((y1 + y0) + x5)]) rfl ?_
  refine q_aload_n d_Mo_add_72 rfl ?_
  refine p_getR (k := 1) (b := 709) zc_Mo l_Mo_7 fr_Mo_cells d_Mo_add_73 zk_708 rfl ?_
  refine q_bipush d_Mo_add_76 kb_100 ?_
  refine q_iload_n d_Mo_add_78 rfl ?_
  refine q_imul d_Mo_add_79 o4 ?_
  refine q_iload d_Mo_add_80 rfl ?_
  refine q_iadd d_Mo_add_82 o5 ?_
  refine q_iload d_Mo_add_83 rfl ?_
  refine q_ldc (x := 16777216) l_Mo_101 d_Mo_add_85 (by decide) ?_
  refine q_irem d_Mo_add_87 ⟨o6, by decide⟩ ?_
  refine p_iast d_Mo_add_88 zk_709 o7 (fun D8 e9 => ?_)
  have h := h D8 e9
  obtain ⟨o10, h⟩ := h
  refine q_iinc d_Mo_add_89 rfl (by decide) o10 (L' := [vR 708, vI x1, vI x2, vI x3, vI x4, vI (((y1 + y0) + x5) / 16777216), vI (x6 + 1), vI ((y1 + y0) + x5)]) rfl ?_
  refine q_goto (tgt := 38) d_Mo_add_92 (by decide) ?_
  exact h
theorem s_Mo_subtract_0 {x1 : Int} {x2 : Int} {x3 : Int}  (h : ((0 ≤ x1 ∧ x1 < 260)) ∧ Sg g M_Mo_subtract Q 14 [vR 708, vI x1, vI x2, vI x3, vI (D 710 x1), vI 0, vI 0, vU] [] D) : Sg g M_Mo_subtract Q 0 [vR 708, vI x1, vI x2, vI x3, vU, vU, vU, vU] [] D := by
  unfold Sg
  obtain ⟨o1, h⟩ := h
  refine q_aload_n d_Mo_subtract_0 rfl ?_
  refine p_getR (k := 2) (b := 710) zc_Mo l_Mo_13 fr_Mo_sizes d_Mo_subtract_1 zk_708 rfl ?_
  refine q_iload_n d_Mo_subtract_4 rfl ?_
  refine p_iald d_Mo_subtract_5 zk_710 o1 ?_
  refine q_istore d_Mo_subtract_6 (by decide) (L' := [vR 708, vI x1, vI x2, vI x3, vI (D 710 x1), vU, vU, vU]) rfl ?_
  refine q_iconst d_Mo_subtract_8 (by decide) ?_
  refine q_istore d_Mo_subtract_9 (by decide) (L' := [vR 708, vI x1, vI x2, vI x3, vI (D 710 x1), vI 0, vU, vU]) rfl ?_
  refine q_iconst d_Mo_subtract_11 (by decide) ?_
  refine q_istore d_Mo_subtract_12 (by decide) (L' := [vR 708, vI x1, vI x2, vI x3, vI (D 710 x1), vI 0, vI 0, vU]) rfl ?_
  exact h
theorem s_Mo_subtract_14 {x1 : Int} {x2 : Int} {x3 : Int} {x4 : Int} {x5 : Int} {x6 : Int} {z7 : VV}  (h : ((x4 ≤ x6 → ((0 ≤ x3 ∧ x3 < 260)) ∧ (∀ D3, D3 = zw D 710 x3 x4 → CV g M_Mo_trim [vR 708, vI x3] D3 (fun D' => Sg g M_Mo_subtract Q 99 [vR 708, vI x1, vI x2, vI x3, vI x4, vI x5, vI x6, vU] [] D'))) ∧ (¬ x4 ≤ x6 → CI g M_Mo_part [vR 708, vI x1, vI x6] D (fun v6 D' => Sg g M_Mo_subtract Q 28 [vR 708, vI x1, vI x2, vI x3, vI x4, vI x5, vI x6, vU] [vI v6] D')))) : Sg g M_Mo_subtract Q 14 [vR 708, vI x1, vI x2, vI x3, vI x4, vI x5, vI x6, z7] [] D := by
  unfold Sg
  refine q_mask [false, false, false, false, false, false, false, true] (L' := [vR 708, vI x1, vI x2, vI x3, vI x4, vI x5, vI x6, vU]) rfl ?_
  refine q_iload d_Mo_subtract_14 rfl ?_
  refine q_iload d_Mo_subtract_16 rfl ?_
  refine q_icmp_ge (tgt := 86) d_Mo_subtract_18 (by decide) (fun c1 => ?_) (fun c1 => ?_)
  · have h := h.1 (c1)
    obtain ⟨o2, h⟩ := h
    refine q_aload_n d_Mo_subtract_86 rfl ?_
    refine p_getR (k := 2) (b := 710) zc_Mo l_Mo_13 fr_Mo_sizes d_Mo_subtract_87 zk_708 rfl ?_
    refine q_iload_n d_Mo_subtract_90 rfl ?_
    refine q_iload d_Mo_subtract_91 rfl ?_
    refine p_iast d_Mo_subtract_93 zk_710 o2 (fun D3 e4 => ?_)
    have h := h D3 e4
    refine q_aload_n d_Mo_subtract_94 rfl ?_
    refine q_iload_n d_Mo_subtract_95 rfl ?_
    refine p_callV (as := [vI x3]) (st := []) (a := 708) mc_Mo_trim mv_Mo_trim l_Mo_102 zc_Mo rfl d_Mo_subtract_96 rfl rfl rfl zk_708 (CV.to ?_)
    exact h
  · have h := h.2 (c1)
    refine q_aload_n d_Mo_subtract_21 rfl ?_
    refine q_iload_n d_Mo_subtract_22 rfl ?_
    refine q_iload d_Mo_subtract_23 rfl ?_
    refine p_callV (as := [vI x1, vI x6]) (st := []) (a := 708) mc_Mo_part mv_Mo_part l_Mo_97 zc_Mo rfl d_Mo_subtract_25 rfl rfl rfl zk_708 (CI.to ?_)
    exact h
theorem s_Mo_subtract_99 {z0 : VV} {z1 : VV} {z2 : VV} {z3 : VV} {z4 : VV} {z5 : VV} {z6 : VV} {z7 : VV}  (h : Q none zE D) : Sg g M_Mo_subtract Q 99 [z0, z1, z2, z3, z4, z5, z6, z7] [] D := by
  unfold Sg
  refine q_mask [true, true, true, true, true, true, true, true] (L' := [vU, vU, vU, vU, vU, vU, vU, vU]) rfl ?_
  exact q_vret d_Mo_subtract_99 rfl ⟨Nat.le_refl _, Nat.le_refl _⟩ h
theorem s_Mo_subtract_28 {x1 : Int} {x2 : Int} {x3 : Int} {x4 : Int} {x5 : Int} {x6 : Int} {z7 : VV} {y0 : Int}  (h : CI g M_Mo_part [vR 708, vI x2, vI x6] D (fun v1 D' => Sg g M_Mo_subtract Q 35 [vR 708, vI x1, vI x2, vI x3, vI x4, vI x5, vI x6, vU] [vI v1, vI y0] D')) : Sg g M_Mo_subtract Q 28 [vR 708, vI x1, vI x2, vI x3, vI x4, vI x5, vI x6, z7] [vI y0] D := by
  unfold Sg
  refine q_mask [false, false, false, false, false, false, false, true] (L' := [vR 708, vI x1, vI x2, vI x3, vI x4, vI x5, vI x6, vU]) rfl ?_
  refine q_aload_n d_Mo_subtract_28 rfl ?_
  refine q_iload_n d_Mo_subtract_29 rfl ?_
  refine q_iload d_Mo_subtract_30 rfl ?_
  refine p_callV (as := [vI x2, vI x6]) (st := [vI y0]) (a := 708) mc_Mo_part mv_Mo_part l_Mo_97 zc_Mo rfl d_Mo_subtract_32 rfl rfl rfl zk_708 (CI.to ?_)
  exact h
theorem s_Mo_subtract_35 {x1 : Int} {x2 : Int} {x3 : Int} {x4 : Int} {x5 : Int} {x6 : Int} {z7 : VV} {y0 : Int} {y1 : Int}  (h : (R32 (y1 - y0) ∧ R32 ((y1 - y0) - x5)) ∧ ((0 ≤ ((y1 - y0) - x5) → Sg g M_Mo_subtract Q 51 [vR 708, vI x1, vI x2, vI x3, vI x4, vI x5, vI x6, vI ((y1 - y0) - x5)] [vI 0] D) ∧ (¬ 0 ≤ ((y1 - y0) - x5) → Sg g M_Mo_subtract Q 51 [vR 708, vI x1, vI x2, vI x3, vI x4, vI x5, vI x6, vI ((y1 - y0) - x5)] [vI 1] D))) : Sg g M_Mo_subtract Q 35 [vR 708, vI x1, vI x2, vI x3, vI x4, vI x5, vI x6, z7] [vI y0, vI y1] D := by
  unfold Sg
  refine q_mask [false, false, false, false, false, false, false, true] (L' := [vR 708, vI x1, vI x2, vI x3, vI x4, vI x5, vI x6, vU]) rfl ?_
  obtain ⟨⟨o1, o2⟩, h⟩ := h
  refine q_isub d_Mo_subtract_35 o1 ?_
  refine q_iload d_Mo_subtract_36 rfl ?_
  refine q_isub d_Mo_subtract_38 o2 ?_
  refine q_istore d_Mo_subtract_39 (by decide) (L' := [vR 708, vI x1, vI x2, vI x3, vI x4, vI x5, vI x6, vI ((y1 - y0) - x5)]) rfl ?_
  refine q_iload d_Mo_subtract_41 rfl ?_
  refine q_if_ge (tgt := 50) d_Mo_subtract_43 (by decide) (fun c3 => ?_) (fun c3 => ?_)
  · have h := h.1 (c3)
    refine q_iconst d_Mo_subtract_50 (by decide) ?_
    exact h
  · have h := h.2 (c3)
    refine q_iconst d_Mo_subtract_46 (by decide) ?_
    refine q_goto (tgt := 51) d_Mo_subtract_47 (by decide) ?_
    exact h
theorem s_Mo_subtract_51 {x1 : Int} {x2 : Int} {x3 : Int} {x4 : Int} {z5 : VV} {x6 : Int} {x7 : Int} {y0 : Int}  (h : (R32 (100 * x3) ∧ R32 ((100 * x3) + x6)) ∧ ((0 ≤ x7 → Sg g M_Mo_subtract Q 79 [vR 708, vI x1, vI x2, vI x3, vI x4, vI y0, vI x6, vI x7] [vI x7, vI ((100 * x3) + x6), vR 709] D) ∧ (¬ 0 ≤ x7 → (R32 (x7 + 16777216)) ∧ Sg g M_Mo_subtract Q 79 [vR 708, vI x1, vI x2, vI x3, vI x4, vI y0, vI x6, vI x7] [vI (x7 + 16777216), vI ((100 * x3) + x6), vR 709] D))) : Sg g M_Mo_subtract Q 51 [vR 708, vI x1, vI x2, vI x3, vI x4, z5, vI x6, vI x7] [vI y0] D := by
  unfold Sg
  refine q_mask [false, false, false, false, false, true, false, false] (L' := [vR 708, vI x1, vI x2, vI x3, vI x4, vU, vI x6, vI x7]) rfl ?_
  obtain ⟨⟨o1, o2⟩, h⟩ := h
  refine q_istore d_Mo_subtract_51 (by decide) (L' := [vR 708, vI x1, vI x2, vI x3, vI x4, vI y0, vI x6, vI x7]) rfl ?_
  refine q_aload_n d_Mo_subtract_53 rfl ?_
  refine p_getR (k := 1) (b := 709) zc_Mo l_Mo_7 fr_Mo_cells d_Mo_subtract_54 zk_708 rfl ?_
  refine q_bipush d_Mo_subtract_57 kb_100 ?_
  refine q_iload_n d_Mo_subtract_59 rfl ?_
  refine q_imul d_Mo_subtract_60 o1 ?_
  refine q_iload d_Mo_subtract_61 rfl ?_
  refine q_iadd d_Mo_subtract_63 o2 ?_
  refine q_iload d_Mo_subtract_64 rfl ?_
  refine q_if_ge (tgt := 77) d_Mo_subtract_66 (by decide) (fun c3 => ?_) (fun c3 => ?_)
  · have h := h.1 (c3)
    refine q_iload d_Mo_subtract_77 rfl ?_
    exact h
  · have h := h.2 (c3)
    obtain ⟨o4, h⟩ := h
    refine q_iload d_Mo_subtract_69 rfl ?_
    refine q_ldc (x := 16777216) l_Mo_101 d_Mo_subtract_71 (by decide) ?_
    refine q_iadd d_Mo_subtract_73 o4 ?_
    refine q_goto (tgt := 79) d_Mo_subtract_74 (by decide) ?_
    exact h
theorem s_Mo_subtract_79 {x1 : Int} {x2 : Int} {x3 : Int} {x4 : Int} {x5 : Int} {x6 : Int} {z7 : VV} {y0 : Int} {y1 : Int}  (h : ((0 ≤ y1 ∧ y1 < 26000)) ∧ (∀ D2, D2 = zw D 709 y1 y0 → (R32 (x6 + 1)) ∧ Sg g M_Mo_subtract Q 14 [vR 708, vI x1, vI x2, vI x3, vI x4, vI x5, vI (x6 + 1), vU] [] D2)) : Sg g M_Mo_subtract Q 79 [vR 708, vI x1, vI x2, vI x3, vI x4, vI x5, vI x6, z7] [vI y0, vI y1, vR 709] D := by
  unfold Sg
  refine q_mask [false, false, false, false, false, false, false, true] (L' := [vR 708, vI x1, vI x2, vI x3, vI x4, vI x5, vI x6, vU]) rfl ?_
  obtain ⟨o1, h⟩ := h
  refine p_iast d_Mo_subtract_79 zk_709 o1 (fun D2 e3 => ?_)
  have h := h D2 e3
  obtain ⟨o4, h⟩ := h
  refine q_iinc d_Mo_subtract_80 rfl (by decide) o4 (L' := [vR 708, vI x1, vI x2, vI x3, vI x4, vI x5, vI (x6 + 1), vU]) rfl ?_
  refine q_goto (tgt := 14) d_Mo_subtract_83 (by decide) ?_
  exact h
theorem s_Mo_multiply_0 {x1 : Int} {x2 : Int} {x3 : Int}  (h : ((0 ≤ x1 ∧ x1 < 260) ∧ (0 ≤ x2 ∧ x2 < 260) ∧ R32 ((D 710 x1) + (D 710 x2))) ∧ Sg g M_Mo_multiply Q 18 [vR 708, vI x1, vI x2, vI x3, vI ((D 710 x1) + (D 710 x2)), vI 0, vU, vU, vU, vU, vU, vU, vU] [] D) : Sg g M_Mo_multiply Q 0 [vR 708, vI x1, vI x2, vI x3, vU, vU, vU, vU, vU, vU, vU, vU, vU] [] D := by
  unfold Sg
  obtain ⟨⟨o1, o2, o3⟩, h⟩ := h
  refine q_aload_n d_Mo_multiply_0 rfl ?_
  refine p_getR (k := 2) (b := 710) zc_Mo l_Mo_13 fr_Mo_sizes d_Mo_multiply_1 zk_708 rfl ?_
  refine q_iload_n d_Mo_multiply_4 rfl ?_
  refine p_iald d_Mo_multiply_5 zk_710 o1 ?_
  refine q_aload_n d_Mo_multiply_6 rfl ?_
  refine p_getR (k := 2) (b := 710) zc_Mo l_Mo_13 fr_Mo_sizes d_Mo_multiply_7 zk_708 rfl ?_
  refine q_iload_n d_Mo_multiply_10 rfl ?_
  refine p_iald d_Mo_multiply_11 zk_710 o2 ?_
  refine q_iadd d_Mo_multiply_12 o3 ?_
  refine q_istore d_Mo_multiply_13 (by decide) (L' := [vR 708, vI x1, vI x2, vI x3, vI ((D 710 x1) + (D 710 x2)), vU, vU, vU, vU, vU, vU, vU, vU]) rfl ?_
  refine q_iconst d_Mo_multiply_15 (by decide) ?_
  refine q_istore d_Mo_multiply_16 (by decide) (L' := [vR 708, vI x1, vI x2, vI x3, vI ((D 710 x1) + (D 710 x2)), vI 0, vU, vU, vU, vU, vU, vU, vU]) rfl ?_
  exact h
theorem s_Mo_multiply_18 {x1 : Int} {x2 : Int} {x3 : Int} {x4 : Int} {x5 : Int} {z6 : VV} {z7 : VV} {z8 : VV} {z9 : VV} {z10 : VV} {z11 : VV} {z12 : VV}  (h : ((x4 ≤ x5 → ((0 ≤ x3 ∧ x3 < 260)) ∧ (∀ D3, D3 = zw D 710 x3 x4 → Sg g M_Mo_multiply Q 55 [vR 708, vI x1, vI x2, vI x3, vI x4, vI 0, vU, vU, vU, vU, vU, vU, vU] [] D3)) ∧ (¬ x4 ≤ x5 → (R32 (100 * x3) ∧ R32 ((100 * x3) + x5) ∧ (0 ≤ (100 * x3) + x5 ∧ (100 * x3) + x5 < 26000)) ∧ (∀ D8, D8 = zw D 709 ((100 * x3) + x5) 0 → (R32 (x5 + 1)) ∧ Sg g M_Mo_multiply Q 18 [vR 708, vI x1, vI x2, vI x3, vI x4, vI (x5 + 1), vU, vU, vU, vU, vU, vU, vU] [] D8)))) : Sg g M_Mo_multiply Q 18 [vR 708, vI x1, vI x2, vI x3, vI x4, vI x5, z6, z7, z8, z9, z10, z11, z12] [] D := by
  unfold Sg
  refine q_mask [false, false, false, false, false, false, true, true, true, true, true, true, true] (L' := [vR 708, vI x1, vI x2, vI x3, vI x4, vI x5, vU, vU, vU, vU, vU, vU, vU]) rfl ?_
  refine q_iload d_Mo_multiply_18 rfl ?_
  refine q_iload d_Mo_multiply_20 rfl ?_
  refine q_icmp_ge (tgt := 44) d_Mo_multiply_22 (by decide) (fun c1 => ?_) (fun c1 => ?_)
  · have h := h.1 (c1)
    obtain ⟨o2, h⟩ := h
    refine q_aload_n d_Mo_multiply_44 rfl ?_
    refine p_getR (k := 2) (b := 710) zc_Mo l_Mo_13 fr_Mo_sizes d_Mo_multiply_45 zk_708 rfl ?_
    refine q_iload_n d_Mo_multiply_48 rfl ?_
    refine q_iload d_Mo_multiply_49 rfl ?_
    refine p_iast d_Mo_multiply_51 zk_710 o2 (fun D3 e4 => ?_)
    have h := h D3 e4
    refine q_iconst d_Mo_multiply_52 (by decide) ?_
    refine q_istore d_Mo_multiply_53 (by decide) (L' := [vR 708, vI x1, vI x2, vI x3, vI x4, vI 0, vU, vU, vU, vU, vU, vU, vU]) rfl ?_
    exact h
  · have h := h.2 (c1)
    obtain ⟨⟨o5, o6, o7⟩, h⟩ := h
    refine q_aload_n d_Mo_multiply_25 rfl ?_
    refine p_getR (k := 1) (b := 709) zc_Mo l_Mo_7 fr_Mo_cells d_Mo_multiply_26 zk_708 rfl ?_
    refine q_bipush d_Mo_multiply_29 kb_100 ?_
    refine q_iload_n d_Mo_multiply_31 rfl ?_
    refine q_imul d_Mo_multiply_32 o5 ?_
    refine q_iload d_Mo_multiply_33 rfl ?_
    refine q_iadd d_Mo_multiply_35 o6 ?_
    refine q_iconst d_Mo_multiply_36 (by decide) ?_
    refine p_iast d_Mo_multiply_37 zk_709 o7 (fun D8 e9 => ?_)
    have h := h D8 e9
    obtain ⟨o10, h⟩ := h
    refine q_iinc d_Mo_multiply_38 rfl (by decide) o10 (L' := [vR 708, vI x1, vI x2, vI x3, vI x4, vI (x5 + 1), vU, vU, vU, vU, vU, vU, vU]) rfl ?_
    refine q_goto (tgt := 18) d_Mo_multiply_41 (by decide) ?_
    exact h
theorem s_Mo_multiply_55 {x1 : Int} {x2 : Int} {x3 : Int} {z4 : VV} {x5 : Int} {z6 : VV} {z7 : VV} {z8 : VV} {z9 : VV} {z10 : VV} {z11 : VV} {z12 : VV}  (h : ((0 ≤ x1 ∧ x1 < 260)) ∧ (((D 710 x1) ≤ x5 → CV g M_Mo_trim [vR 708, vI x3] D (fun D' => Sg g M_Mo_multiply Q 205 [vR 708, vI x1, vI x2, vI x3, vU, vI x5, vU, vU, vU, vU, vU, vU, vU] [] D')) ∧ (¬ (D 710 x1) ≤ x5 → (R32 (100 * x1) ∧ R32 ((100 * x1) + x5) ∧ (0 ≤ (100 * x1) + x5 ∧ (100 * x1) + x5 < 26000)) ∧ Sg g M_Mo_multiply Q 87 [vR 708, vI x1, vI x2, vI x3, vU, vI x5, vL 0, vU, vL (D 709 ((100 * x1) + x5)), vU, vI 0, vU, vU] [] D))) : Sg g M_Mo_multiply Q 55 [vR 708, vI x1, vI x2, vI x3, z4, vI x5, z6, z7, z8, z9, z10, z11, z12] [] D := by
  unfold Sg
  refine q_mask [false, false, false, false, true, false, true, true, true, true, true, true, true] (L' := [vR 708, vI x1, vI x2, vI x3, vU, vI x5, vU, vU, vU, vU, vU, vU, vU]) rfl ?_
  obtain ⟨o1, h⟩ := h
  refine q_iload d_Mo_multiply_55 rfl ?_
  refine q_aload_n d_Mo_multiply_57 rfl ?_
  refine p_getR (k := 2) (b := 710) zc_Mo l_Mo_13 fr_Mo_sizes d_Mo_multiply_58 zk_708 rfl ?_
  refine q_iload_n d_Mo_multiply_61 rfl ?_
  refine p_iald d_Mo_multiply_62 zk_710 o1 ?_
  refine q_icmp_ge (tgt := 200) d_Mo_multiply_63 (by decide) (fun c2 => ?_) (fun c2 => ?_)
  · have h := h.1 (c2)
    refine q_aload_n d_Mo_multiply_200 rfl ?_
    refine q_iload_n d_Mo_multiply_201 rfl ?_
    refine p_callV (as := [vI x3]) (st := []) (a := 708) mc_Mo_trim mv_Mo_trim l_Mo_102 zc_Mo rfl d_Mo_multiply_202 rfl rfl rfl zk_708 (CV.to ?_)
    exact h
  · have h := h.2 (c2)
    obtain ⟨⟨o4, o5, o6⟩, h⟩ := h
    refine q_lconst (x := 0) d_Mo_multiply_66 ⟨rfl, by decide⟩ ?_
    refine q_lstore d_Mo_multiply_67 (by decide) (L' := [vR 708, vI x1, vI x2, vI x3, vU, vI x5, vL 0, vU, vU, vU, vU, vU, vU]) rfl ?_
    refine q_aload_n d_Mo_multiply_69 rfl ?_
    refine p_getR (k := 1) (b := 709) zc_Mo l_Mo_7 fr_Mo_cells d_Mo_multiply_70 zk_708 rfl ?_
    refine q_bipush d_Mo_multiply_73 kb_100 ?_
    refine q_iload_n d_Mo_multiply_75 rfl ?_
    refine q_imul d_Mo_multiply_76 o4 ?_
    refine q_iload d_Mo_multiply_77 rfl ?_
    refine q_iadd d_Mo_multiply_79 o5 ?_
    refine p_iald d_Mo_multiply_80 zk_709 o6 ?_
    refine q_i2l d_Mo_multiply_81 ?_
    refine q_lstore d_Mo_multiply_82 (by decide) (L' := [vR 708, vI x1, vI x2, vI x3, vU, vI x5, vL 0, vU, vL (D 709 ((100 * x1) + x5)), vU, vU, vU, vU]) rfl ?_
    refine q_iconst d_Mo_multiply_84 (by decide) ?_
    refine q_istore d_Mo_multiply_85 (by decide) (L' := [vR 708, vI x1, vI x2, vI x3, vU, vI x5, vL 0, vU, vL (D 709 ((100 * x1) + x5)), vU, vI 0, vU, vU]) rfl ?_
    exact h
theorem s_Mo_multiply_205 {z0 : VV} {z1 : VV} {z2 : VV} {z3 : VV} {z4 : VV} {z5 : VV} {z6 : VV} {z7 : VV} {z8 : VV} {z9 : VV} {z10 : VV} {z11 : VV} {z12 : VV}  (h : Q none zE D) : Sg g M_Mo_multiply Q 205 [z0, z1, z2, z3, z4, z5, z6, z7, z8, z9, z10, z11, z12] [] D := by
  unfold Sg
  refine q_mask [true, true, true, true, true, true, true, true, true, true, true, true, true] (L' := [vU, vU, vU, vU, vU, vU, vU, vU, vU, vU, vU, vU, vU]) rfl ?_
  exact q_vret d_Mo_multiply_205 rfl ⟨Nat.le_refl _, Nat.le_refl _⟩ h
theorem s_Mo_multiply_87 {x1 : Int} {x2 : Int} {x3 : Int} {z4 : VV} {x5 : Int} {x6 : Int} {x8 : Int} {x10 : Int} {z11 : VV} {z12 : VV}  (h : ((0 ≤ x2 ∧ x2 < 260)) ∧ (((D 710 x2) ≤ x10 → (R32 (100 * x3) ∧ R32 ((100 * x3) + x5) ∧ (0 ≤ x2 ∧ x2 < 260) ∧ R32 (((100 * x3) + x5) + (D 710 x2)) ∧ R32 x6 ∧ (0 ≤ ((100 * x3) + x5) + (D 710 x2) ∧ ((100 * x3) + x5) + (D 710 x2) < 26000)) ∧ (∀ D9, D9 = zw D 709 (((100 * x3) + x5) + (D 710 x2)) x6 → (R32 (x5 + 1)) ∧ Sg g M_Mo_multiply Q 55 [vR 708, vI x1, vI x2, vI x3, vU, vI (x5 + 1), vL x6, vU, vL x8, vU, vI x10, vU, vU] [] D9)) ∧ (¬ (D 710 x2) ≤ x10 → (R32 (100 * x2) ∧ R32 ((100 * x2) + x10) ∧ (0 ≤ (100 * x2) + x10 ∧ (100 * x2) + x10 < 26000) ∧ R64 (x8 * (D 709 ((100 * x2) + x10))) ∧ R32 (100 * x3) ∧ R32 ((100 * x3) + x5) ∧ R32 (((100 * x3) + x5) + x10) ∧ (0 ≤ ((100 * x3) + x5) + x10 ∧ ((100 * x3) + x5) + x10 < 26000) ∧ R64 ((x8 * (D 709 ((100 * x2) + x10))) + (D 709 (((100 * x3) + x5) + x10))) ∧ R64 (((x8 * (D 709 ((100 * x2) + x10))) + (D 709 (((100 * x3) + x5) + x10))) + x6) ∧ R32 (100 * x3) ∧ R32 ((100 * x3) + x5) ∧ R32 (((100 * x3) + x5) + x10) ∧ 0 ≤ ((x8 * (D 709 ((100 * x2) + x10))) + (D 709 (((100 * x3) + x5) + x10))) + x6 ∧ R32 ((((x8 * (D 709 ((100 * x2) + x10))) + (D 709 (((100 * x3) + x5) + x10))) + x6) % 16777216) ∧ (0 ≤ ((100 * x3) + x5) + x10 ∧ ((100 * x3) + x5) + x10 < 26000)) ∧ (∀ D28, D28 = zw D 709 (((100 * x3) + x5) + x10) ((((x8 * (D 709 ((100 * x2) + x10))) + (D 709 (((100 * x3) + x5) + x10))) + x6) % 16777216) → (0 ≤ ((x8 * (D 709 ((100 * x2) + x10))) + (D 709 (((100 * x3) + x5) + x10))) + x6 ∧ R32 (x10 + 1)) ∧ Sg g M_Mo_multiply Q 87 [vR 708, vI x1, vI x2, vI x3, vU, vI x5, vL ((((x8 * (D 709 ((100 * x2) + x10))) + (D 709 (((100 * x3) + x5) + x10))) + x6) / 16777216), vU, vL x8, vU, vI (x10 + 1), vL (((x8 * (D 709 ((100 * x2) + x10))) + (D 709 (((100 * x3) + x5) + x10))) + x6), vU] [] D28)))) : Sg g M_Mo_multiply Q 87 [vR 708, vI x1, vI x2, vI x3, z4, vI x5, vL x6, vU, vL x8, vU, vI x10, z11, z12] [] D := by
  unfold Sg
  refine q_mask [false, false, false, false, true, false, false, false, false, false, false, true, true] (L' := [vR 708, vI x1, vI x2, vI x3, vU, vI x5, vL x6, vU, vL x8, vU, vI x10, vU, vU]) rfl ?_
  obtain ⟨o1, h⟩ := h
  refine q_iload d_Mo_multiply_87 rfl ?_
  refine q_aload_n d_Mo_multiply_89 rfl ?_
  refine p_getR (k := 2) (b := 710) zc_Mo l_Mo_13 fr_Mo_sizes d_Mo_multiply_90 zk_708 rfl ?_
  refine q_iload_n d_Mo_multiply_93 rfl ?_
  refine p_iald d_Mo_multiply_94 zk_710 o1 ?_
  refine q_icmp_ge (tgt := 172) d_Mo_multiply_95 (by decide) (fun c2 => ?_) (fun c2 => ?_)
  · have h := h.1 (c2)
    obtain ⟨⟨o3, o4, o5, o6, o7, o8⟩, h⟩ := h
    refine q_aload_n d_Mo_multiply_172 rfl ?_
    refine p_getR (k := 1) (b := 709) zc_Mo l_Mo_7 fr_Mo_cells d_Mo_multiply_173 zk_708 rfl ?_
    refine q_bipush d_Mo_multiply_176 kb_100 ?_
    refine q_iload_n d_Mo_multiply_178 rfl ?_
    refine q_imul d_Mo_multiply_179 o3 ?_
    refine q_iload d_Mo_multiply_180 rfl ?_
    refine q_iadd d_Mo_multiply_182 o4 ?_
    refine q_aload_n d_Mo_multiply_183 rfl ?_
    refine p_getR (k := 2) (b := 710) zc_Mo l_Mo_13 fr_Mo_sizes d_Mo_multiply_184 zk_708 rfl ?_
    refine q_iload_n d_Mo_multiply_187 rfl ?_
    refine p_iald d_Mo_multiply_188 zk_710 o5 ?_
    refine q_iadd d_Mo_multiply_189 o6 ?_
    refine q_lload d_Mo_multiply_190 rfl ?_
    refine q_l2i d_Mo_multiply_192 o7 ?_
    refine p_iast d_Mo_multiply_193 zk_709 o8 (fun D9 e10 => ?_)
    have h := h D9 e10
    obtain ⟨o11, h⟩ := h
    refine q_iinc d_Mo_multiply_194 rfl (by decide) o11 (L' := [vR 708, vI x1, vI x2, vI x3, vU, vI (x5 + 1), vL x6, vU, vL x8, vU, vI x10, vU, vU]) rfl ?_
    refine q_goto (tgt := 55) d_Mo_multiply_197 (by decide) ?_
    exact h
  · have h := h.2 (c2)
    obtain ⟨⟨o12, o13, o14, o15, o16, o17, o18, o19, o20, o21, o22, o23, o24, o25, o26, o27⟩, h⟩ := h
    refine q_lload d_Mo_multiply_98 rfl ?_
    refine q_aload_n d_Mo_multiply_100 rfl ?_
    refine p_getR (k := 1) (b := 709) zc_Mo l_Mo_7 fr_Mo_cells d_Mo_multiply_101 zk_708 rfl ?_
    refine q_bipush d_Mo_multiply_104 kb_100 ?_
    refine q_iload_n d_Mo_multiply_106 rfl ?_
    refine q_imul d_Mo_multiply_107 o12 ?_
    refine q_iload d_Mo_multiply_108 rfl ?_
    refine q_iadd d_Mo_multiply_110 o13 ?_
    refine p_iald d_Mo_multiply_111 zk_709 o14 ?_
    refine q_i2l d_Mo_multiply_112 ?_
    refine q_lmul d_Mo_multiply_113 o15 ?_
    refine q_aload_n d_Mo_multiply_114 rfl ?_
    refine p_getR (k := 1) (b := 709) zc_Mo l_Mo_7 fr_Mo_cells d_Mo_multiply_115 zk_708 rfl ?_
    refine q_bipush d_Mo_multiply_118 kb_100 ?_
    refine q_iload_n d_Mo_multiply_120 rfl ?_
    refine q_imul d_Mo_multiply_121 o16 ?_
    refine q_iload d_Mo_multiply_122 rfl ?_
    refine q_iadd d_Mo_multiply_124 o17 ?_
    refine q_iload d_Mo_multiply_125 rfl ?_
    refine q_iadd d_Mo_multiply_127 o18 ?_
    refine p_iald d_Mo_multiply_128 zk_709 o19 ?_
    refine q_i2l d_Mo_multiply_129 ?_
    refine q_ladd d_Mo_multiply_130 o20 ?_
    refine q_lload d_Mo_multiply_131 rfl ?_
    refine q_ladd d_Mo_multiply_133 o21 ?_
    refine q_lstore d_Mo_multiply_134 (by decide) (L' := [vR 708, vI x1, vI x2, vI x3, vU, vI x5, vL x6, vU, vL x8, vU, vI x10, vL (((x8 * (D 709 ((100 * x2) + x10))) + (D 709 (((100 * x3) + x5) + x10))) + x6), vU]) rfl ?_
    refine q_aload_n d_Mo_multiply_136 rfl ?_
    refine p_getR (k := 1) (b := 709) zc_Mo l_Mo_7 fr_Mo_cells d_Mo_multiply_137 zk_708 rfl ?_
    refine q_bipush d_Mo_multiply_140 kb_100 ?_
    refine q_iload_n d_Mo_multiply_142 rfl ?_
    refine q_imul d_Mo_multiply_143 o22 ?_
    refine q_iload d_Mo_multiply_144 rfl ?_
    refine q_iadd d_Mo_multiply_146 o23 ?_
    refine q_iload d_Mo_multiply_147 rfl ?_
    refine q_iadd d_Mo_multiply_149 o24 ?_
    refine q_lload d_Mo_multiply_150 rfl ?_
    refine q_ldc2 (x := 16777216) l_Mo_95 d_Mo_multiply_152 (by decide) ?_
    refine q_lrem d_Mo_multiply_155 ⟨o25, by decide⟩ ?_
    refine q_l2i d_Mo_multiply_156 o26 ?_
    refine p_iast d_Mo_multiply_157 zk_709 o27 (fun D28 e29 => ?_)
    have h := h D28 e29
    obtain ⟨⟨o30, o31⟩, h⟩ := h
    refine q_lload d_Mo_multiply_158 rfl ?_
    refine q_ldc2 (x := 16777216) l_Mo_95 d_Mo_multiply_160 (by decide) ?_
    refine q_ldiv d_Mo_multiply_163 ⟨o30, by decide⟩ ?_
    refine q_lstore d_Mo_multiply_164 (by decide) (L' := [vR 708, vI x1, vI x2, vI x3, vU, vI x5, vL ((((x8 * (D 709 ((100 * x2) + x10))) + (D 709 (((100 * x3) + x5) + x10))) + x6) / 16777216), vU, vL x8, vU, vI x10, vL (((x8 * (D 709 ((100 * x2) + x10))) + (D 709 (((100 * x3) + x5) + x10))) + x6), vU]) rfl ?_
    refine q_iinc d_Mo_multiply_166 rfl (by decide) o31 (L' := [vR 708, vI x1, vI x2, vI x3, vU, vI x5, vL ((((x8 * (D 709 ((100 * x2) + x10))) + (D 709 (((100 * x3) + x5) + x10))) + x6) / 16777216), vU, vL x8, vU, vI (x10 + 1), vL (((x8 * (D 709 ((100 * x2) + x10))) + (D 709 (((100 * x3) + x5) + x10))) + x6), vU]) rfl ?_
    refine q_goto (tgt := 87) d_Mo_multiply_169 (by decide) ?_
    exact h
theorem s_Mo_multiplyBy_0 {x1 : Int} {x2 : Int}  (h : Sg g M_Mo_multiplyBy Q 5 [vR 708, vI x1, vI x2, vL 0, vU, vI 0, vU, vU] [] D) : Sg g M_Mo_multiplyBy Q 0 [vR 708, vI x1, vI x2, vU, vU, vU, vU, vU] [] D := by
  unfold Sg
  refine q_lconst (x := 0) d_Mo_multiplyBy_0 ⟨rfl, by decide⟩ ?_
  refine q_lstore_n d_Mo_multiplyBy_1 (by decide) (L' := [vR 708, vI x1, vI x2, vL 0, vU, vU, vU, vU]) rfl ?_
  refine q_iconst d_Mo_multiplyBy_2 (by decide) ?_
  refine q_istore d_Mo_multiplyBy_3 (by decide) (L' := [vR 708, vI x1, vI x2, vL 0, vU, vI 0, vU, vU]) rfl ?_
  exact h
theorem s_Mo_multiplyBy_5 {x1 : Int} {x2 : Int} {x3 : Int} {x5 : Int} {z6 : VV} {z7 : VV}  (h : ((0 ≤ x1 ∧ x1 < 260)) ∧ (((D 710 x1) ≤ x5 → Sg g M_Mo_multiplyBy Q 68 [vR 708, vI x1, vI x2, vL x3, vU, vI x5, vU, vU] [] D) ∧ (¬ (D 710 x1) ≤ x5 → (R32 (100 * x1) ∧ R32 ((100 * x1) + x5) ∧ (0 ≤ (100 * x1) + x5 ∧ (100 * x1) + x5 < 26000) ∧ R64 ((D 709 ((100 * x1) + x5)) * x2) ∧ R64 (((D 709 ((100 * x1) + x5)) * x2) + x3) ∧ R32 (100 * x1) ∧ R32 ((100 * x1) + x5) ∧ 0 ≤ ((D 709 ((100 * x1) + x5)) * x2) + x3 ∧ R32 ((((D 709 ((100 * x1) + x5)) * x2) + x3) % 16777216) ∧ (0 ≤ (100 * x1) + x5 ∧ (100 * x1) + x5 < 26000)) ∧ (∀ D13, D13 = zw D 709 ((100 * x1) + x5) ((((D 709 ((100 * x1) + x5)) * x2) + x3) % 16777216) → (0 ≤ ((D 709 ((100 * x1) + x5)) * x2) + x3 ∧ R32 (x5 + 1)) ∧ Sg g M_Mo_multiplyBy Q 5 [vR 708, vI x1, vI x2, vL ((((D 709 ((100 * x1) + x5)) * x2) + x3) / 16777216), vU, vI (x5 + 1), vL (((D 709 ((100 * x1) + x5)) * x2) + x3), vU] [] D13)))) : Sg g M_Mo_multiplyBy Q 5 [vR 708, vI x1, vI x2, vL x3, vU, vI x5, z6, z7] [] D := by
  unfold Sg
  refine q_mask [false, false, false, false, false, false, true, true] (L' := [vR 708, vI x1, vI x2, vL x3, vU, vI x5, vU, vU]) rfl ?_
  obtain ⟨o1, h⟩ := h
  refine q_iload d_Mo_multiplyBy_5 rfl ?_
  refine q_aload_n d_Mo_multiplyBy_7 rfl ?_
  refine p_getR (k := 2) (b := 710) zc_Mo l_Mo_13 fr_Mo_sizes d_Mo_multiplyBy_8 zk_708 rfl ?_
  refine q_iload_n d_Mo_multiplyBy_11 rfl ?_
  refine p_iald d_Mo_multiplyBy_12 zk_710 o1 ?_
  refine q_icmp_ge (tgt := 68) d_Mo_multiplyBy_13 (by decide) (fun c2 => ?_) (fun c2 => ?_)
  · have h := h.1 (c2)
    exact h
  · have h := h.2 (c2)
    obtain ⟨⟨o3, o4, o5, o6, o7, o8, o9, o10, o11, o12⟩, h⟩ := h
    refine q_aload_n d_Mo_multiplyBy_16 rfl ?_
    refine p_getR (k := 1) (b := 709) zc_Mo l_Mo_7 fr_Mo_cells d_Mo_multiplyBy_17 zk_708 rfl ?_
    refine q_bipush d_Mo_multiplyBy_20 kb_100 ?_
    refine q_iload_n d_Mo_multiplyBy_22 rfl ?_
    refine q_imul d_Mo_multiplyBy_23 o3 ?_
    refine q_iload d_Mo_multiplyBy_24 rfl ?_
    refine q_iadd d_Mo_multiplyBy_26 o4 ?_
    refine p_iald d_Mo_multiplyBy_27 zk_709 o5 ?_
    refine q_i2l d_Mo_multiplyBy_28 ?_
    refine q_iload_n d_Mo_multiplyBy_29 rfl ?_
    refine q_i2l d_Mo_multiplyBy_30 ?_
    refine q_lmul d_Mo_multiplyBy_31 o6 ?_
    refine q_lload_n d_Mo_multiplyBy_32 rfl ?_
    refine q_ladd d_Mo_multiplyBy_33 o7 ?_
    refine q_lstore d_Mo_multiplyBy_34 (by decide) (L' := [vR 708, vI x1, vI x2, vL x3, vU, vI x5, vL (((D 709 ((100 * x1) + x5)) * x2) + x3), vU]) rfl ?_
    refine q_aload_n d_Mo_multiplyBy_36 rfl ?_
    refine p_getR (k := 1) (b := 709) zc_Mo l_Mo_7 fr_Mo_cells d_Mo_multiplyBy_37 zk_708 rfl ?_
    refine q_bipush d_Mo_multiplyBy_40 kb_100 ?_
    refine q_iload_n d_Mo_multiplyBy_42 rfl ?_
    refine q_imul d_Mo_multiplyBy_43 o8 ?_
    refine q_iload d_Mo_multiplyBy_44 rfl ?_
    refine q_iadd d_Mo_multiplyBy_46 o9 ?_
    refine q_lload d_Mo_multiplyBy_47 rfl ?_
    refine q_ldc2 (x := 16777216) l_Mo_95 d_Mo_multiplyBy_49 (by decide) ?_
    refine q_lrem d_Mo_multiplyBy_52 ⟨o10, by decide⟩ ?_
    refine q_l2i d_Mo_multiplyBy_53 o11 ?_
    refine p_iast d_Mo_multiplyBy_54 zk_709 o12 (fun D13 e14 => ?_)
    have h := h D13 e14
    obtain ⟨⟨o15, o16⟩, h⟩ := h
    refine q_lload d_Mo_multiplyBy_55 rfl ?_
    refine q_ldc2 (x := 16777216) l_Mo_95 d_Mo_multiplyBy_57 (by decide) ?_
    refine q_ldiv d_Mo_multiplyBy_60 ⟨o15, by decide⟩ ?_
    refine q_lstore_n d_Mo_multiplyBy_61 (by decide) (L' := [vR 708, vI x1, vI x2, vL ((((D 709 ((100 * x1) + x5)) * x2) + x3) / 16777216), vU, vI x5, vL (((D 709 ((100 * x1) + x5)) * x2) + x3), vU]) rfl ?_
    refine q_iinc d_Mo_multiplyBy_62 rfl (by decide) o16 (L' := [vR 708, vI x1, vI x2, vL ((((D 709 ((100 * x1) + x5)) * x2) + x3) / 16777216), vU, vI (x5 + 1), vL (((D 709 ((100 * x1) + x5)) * x2) + x3), vU]) rfl ?_
    refine q_goto (tgt := 5) d_Mo_multiplyBy_65 (by decide) ?_
    exact h
theorem s_Mo_multiplyBy_68 {x1 : Int} {z2 : VV} {x3 : Int} {z5 : VV} {z6 : VV} {z7 : VV}  (h : ((x3 ≤ 0 → CV g M_Mo_trim [vR 708, vI x1] D (fun D' => Sg g M_Mo_multiplyBy Q 120 [vR 708, vI x1, vU, vL x3, vU, vU, vU, vU] [] D')) ∧ (¬ x3 ≤ 0 → (R32 (100 * x1) ∧ (0 ≤ x1 ∧ x1 < 260) ∧ R32 ((100 * x1) + (D 710 x1)) ∧ 0 ≤ x3 ∧ R32 (x3 % 16777216) ∧ (0 ≤ (100 * x1) + (D 710 x1) ∧ (100 * x1) + (D 710 x1) < 26000)) ∧ (∀ D9, D9 = zw D 709 ((100 * x1) + (D 710 x1)) (x3 % 16777216) → (0 ≤ x3 ∧ (0 ≤ x1 ∧ x1 < 260) ∧ R32 ((D9 710 x1) + 1) ∧ (0 ≤ x1 ∧ x1 < 260)) ∧ (∀ D15, D15 = zw D9 710 x1 ((D9 710 x1) + 1) → Sg g M_Mo_multiplyBy Q 68 [vR 708, vI x1, vU, vL (x3 / 16777216), vU, vU, vU, vU] [] D15))))) : Sg g M_Mo_multiplyBy Q 68 [vR 708, vI x1, z2, vL x3, vU, z5, z6, z7] [] D := by
  unfold Sg
  refine q_mask [false, false, true, false, false, true, true, true] (L' := [vR 708, vI x1, vU, vL x3, vU, vU, vU, vU]) rfl ?_
  refine q_lload_n d_Mo_multiplyBy_68 rfl ?_
  refine q_lconst (x := 0) d_Mo_multiplyBy_69 ⟨rfl, by decide⟩ ?_
  refine q_lcmp d_Mo_multiplyBy_70 ?_
  refine q_if_le (tgt := 115) d_Mo_multiplyBy_71 (by decide) (fun c1 => ?_) (fun c1 => ?_)
  · have h := h.1 (zcmp_le.mp c1)
    refine q_aload_n d_Mo_multiplyBy_115 rfl ?_
    refine q_iload_n d_Mo_multiplyBy_116 rfl ?_
    refine p_callV (as := [vI x1]) (st := []) (a := 708) mc_Mo_trim mv_Mo_trim l_Mo_102 zc_Mo rfl d_Mo_multiplyBy_117 rfl rfl rfl zk_708 (CV.to ?_)
    exact h
  · have h := h.2 ((not_congr zcmp_le).mp c1)
    obtain ⟨⟨o3, o4, o5, o6, o7, o8⟩, h⟩ := h
    refine q_aload_n d_Mo_multiplyBy_74 rfl ?_
    refine p_getR (k := 1) (b := 709) zc_Mo l_Mo_7 fr_Mo_cells d_Mo_multiplyBy_75 zk_708 rfl ?_
    refine q_bipush d_Mo_multiplyBy_78 kb_100 ?_
    refine q_iload_n d_Mo_multiplyBy_80 rfl ?_
    refine q_imul d_Mo_multiplyBy_81 o3 ?_
    refine q_aload_n d_Mo_multiplyBy_82 rfl ?_
    refine p_getR (k := 2) (b := 710) zc_Mo l_Mo_13 fr_Mo_sizes d_Mo_multiplyBy_83 zk_708 rfl ?_
    refine q_iload_n d_Mo_multiplyBy_86 rfl ?_
    refine p_iald d_Mo_multiplyBy_87 zk_710 o4 ?_
    refine q_iadd d_Mo_multiplyBy_88 o5 ?_
    refine q_lload_n d_Mo_multiplyBy_89 rfl ?_
    refine q_ldc2 (x := 16777216) l_Mo_95 d_Mo_multiplyBy_90 (by decide) ?_
    refine q_lrem d_Mo_multiplyBy_93 ⟨o6, by decide⟩ ?_
    refine q_l2i d_Mo_multiplyBy_94 o7 ?_
    refine p_iast d_Mo_multiplyBy_95 zk_709 o8 (fun D9 e10 => ?_)
    have h := h D9 e10
    obtain ⟨⟨o11, o12, o13, o14⟩, h⟩ := h
    refine q_lload_n d_Mo_multiplyBy_96 rfl ?_
    refine q_ldc2 (x := 16777216) l_Mo_95 d_Mo_multiplyBy_97 (by decide) ?_
    refine q_ldiv d_Mo_multiplyBy_100 ⟨o11, by decide⟩ ?_
    refine q_lstore_n d_Mo_multiplyBy_101 (by decide) (L' := [vR 708, vI x1, vU, vL (x3 / 16777216), vU, vU, vU, vU]) rfl ?_
    refine q_aload_n d_Mo_multiplyBy_102 rfl ?_
    refine p_getR (k := 2) (b := 710) zc_Mo l_Mo_13 fr_Mo_sizes d_Mo_multiplyBy_103 zk_708 rfl ?_
    refine q_iload_n d_Mo_multiplyBy_106 rfl ?_
    refine q_dup2 d_Mo_multiplyBy_107 ⟨rfl, rfl⟩ ?_
    refine p_iald d_Mo_multiplyBy_108 zk_710 o12 ?_
    refine q_iconst d_Mo_multiplyBy_109 (by decide) ?_
    refine q_iadd d_Mo_multiplyBy_110 o13 ?_
    refine p_iast d_Mo_multiplyBy_111 zk_710 o14 (fun D15 e16 => ?_)
    have h := h D15 e16
    refine q_goto (tgt := 68) d_Mo_multiplyBy_112 (by decide) ?_
    exact h
theorem s_Mo_multiplyBy_120 {z0 : VV} {z1 : VV} {z2 : VV} {z3 : VV} {z4 : VV} {z5 : VV} {z6 : VV} {z7 : VV}  (h : Q none zE D) : Sg g M_Mo_multiplyBy Q 120 [z0, z1, z2, z3, z4, z5, z6, z7] [] D := by
  unfold Sg
  refine q_mask [true, true, true, true, true, true, true, true] (L' := [vU, vU, vU, vU, vU, vU, vU, vU]) rfl ?_
  exact q_vret d_Mo_multiplyBy_120 rfl ⟨Nat.le_refl _, Nat.le_refl _⟩ h
theorem s_Mo_divideBy_0 {x1 : Int} {x2 : Int}  (h : ((0 ≤ x1 ∧ x1 < 260) ∧ R32 ((D 710 x1) - 1)) ∧ Sg g M_Mo_divideBy Q 12 [vR 708, vI x1, vI x2, vL 0, vU, vI ((D 710 x1) - 1), vU, vU] [] D) : Sg g M_Mo_divideBy Q 0 [vR 708, vI x1, vI x2, vU, vU, vU, vU, vU] [] D := by
  unfold Sg
  obtain ⟨⟨o1, o2⟩, h⟩ := h
  refine q_lconst (x := 0) d_Mo_divideBy_0 ⟨rfl, by decide⟩ ?_
  refine q_lstore_n d_Mo_divideBy_1 (by decide) (L' := [vR 708, vI x1, vI x2, vL 0, vU, vU, vU, vU]) rfl ?_
  refine q_aload_n d_Mo_divideBy_2 rfl ?_
  refine p_getR (k := 2) (b := 710) zc_Mo l_Mo_13 fr_Mo_sizes d_Mo_divideBy_3 zk_708 rfl ?_
  refine q_iload_n d_Mo_divideBy_6 rfl ?_
  refine p_iald d_Mo_divideBy_7 zk_710 o1 ?_
  refine q_iconst d_Mo_divideBy_8 (by decide) ?_
  refine q_isub d_Mo_divideBy_9 o2 ?_
  refine q_istore d_Mo_divideBy_10 (by decide) (L' := [vR 708, vI x1, vI x2, vL 0, vU, vI ((D 710 x1) - 1), vU, vU]) rfl ?_
  exact h
theorem s_Mo_divideBy_12 {x1 : Int} {x2 : Int} {x3 : Int} {x5 : Int} {z6 : VV} {z7 : VV}  (h : ((x5 < 0 → CV g M_Mo_trim [vR 708, vI x1] D (fun D' => Sg g M_Mo_divideBy Q 73 [vR 708, vI x1, vI x2, vL x3, vU, vI x5, vU, vU] [] D')) ∧ (¬ x5 < 0 → (R64 (x3 * 16777216) ∧ R32 (100 * x1) ∧ R32 ((100 * x1) + x5) ∧ (0 ≤ (100 * x1) + x5 ∧ (100 * x1) + x5 < 26000) ∧ R64 ((x3 * 16777216) + (D 709 ((100 * x1) + x5))) ∧ R32 (100 * x1) ∧ R32 ((100 * x1) + x5) ∧ (0 ≤ (x3 * 16777216) + (D 709 ((100 * x1) + x5)) ∧ 0 < x2) ∧ R32 (((x3 * 16777216) + (D 709 ((100 * x1) + x5))) / x2) ∧ (0 ≤ (100 * x1) + x5 ∧ (100 * x1) + x5 < 26000)) ∧ (∀ D13, D13 = zw D 709 ((100 * x1) + x5) (((x3 * 16777216) + (D 709 ((100 * x1) + x5))) / x2) → ((0 ≤ (x3 * 16777216) + (D 709 ((100 * x1) + x5)) ∧ 0 < x2) ∧ R32 (x5 + (-1))) ∧ Sg g M_Mo_divideBy Q 12 [vR 708, vI x1, vI x2, vL (((x3 * 16777216) + (D 709 ((100 * x1) + x5))) % x2), vU, vI (x5 + (-1)), vL ((x3 * 16777216) + (D 709 ((100 * x1) + x5))), vU] [] D13)))) : Sg g M_Mo_divideBy Q 12 [vR 708, vI x1, vI x2, vL x3, vU, vI x5, z6, z7] [] D := by
  unfold Sg
  refine q_mask [false, false, false, false, false, false, true, true] (L' := [vR 708, vI x1, vI x2, vL x3, vU, vI x5, vU, vU]) rfl ?_
  refine q_iload d_Mo_divideBy_12 rfl ?_
  refine q_if_lt (tgt := 68) d_Mo_divideBy_14 (by decide) (fun c1 => ?_) (fun c1 => ?_)
  · have h := h.1 (c1)
    refine q_aload_n d_Mo_divideBy_68 rfl ?_
    refine q_iload_n d_Mo_divideBy_69 rfl ?_
    refine p_callV (as := [vI x1]) (st := []) (a := 708) mc_Mo_trim mv_Mo_trim l_Mo_102 zc_Mo rfl d_Mo_divideBy_70 rfl rfl rfl zk_708 (CV.to ?_)
    exact h
  · have h := h.2 (c1)
    obtain ⟨⟨o3, o4, o5, o6, o7, o8, o9, o10, o11, o12⟩, h⟩ := h
    refine q_lload_n d_Mo_divideBy_17 rfl ?_
    refine q_ldc2 (x := 16777216) l_Mo_95 d_Mo_divideBy_18 (by decide) ?_
    refine q_lmul d_Mo_divideBy_21 o3 ?_
    refine q_aload_n d_Mo_divideBy_22 rfl ?_
    refine p_getR (k := 1) (b := 709) zc_Mo l_Mo_7 fr_Mo_cells d_Mo_divideBy_23 zk_708 rfl ?_
    refine q_bipush d_Mo_divideBy_26 kb_100 ?_
    refine q_iload_n d_Mo_divideBy_28 rfl ?_
    refine q_imul d_Mo_divideBy_29 o4 ?_
    refine q_iload d_Mo_divideBy_30 rfl ?_
    refine q_iadd d_Mo_divideBy_32 o5 ?_
    refine p_iald d_Mo_divideBy_33 zk_709 o6 ?_
    refine q_i2l d_Mo_divideBy_34 ?_
    refine q_ladd d_Mo_divideBy_35 o7 ?_
    refine q_lstore d_Mo_divideBy_36 (by decide) (L' := [vR 708, vI x1, vI x2, vL x3, vU, vI x5, vL ((x3 * 16777216) + (D 709 ((100 * x1) + x5))), vU]) rfl ?_
    refine q_aload_n d_Mo_divideBy_38 rfl ?_
    refine p_getR (k := 1) (b := 709) zc_Mo l_Mo_7 fr_Mo_cells d_Mo_divideBy_39 zk_708 rfl ?_
    refine q_bipush d_Mo_divideBy_42 kb_100 ?_
    refine q_iload_n d_Mo_divideBy_44 rfl ?_
    refine q_imul d_Mo_divideBy_45 o8 ?_
    refine q_iload d_Mo_divideBy_46 rfl ?_
    refine q_iadd d_Mo_divideBy_48 o9 ?_
    refine q_lload d_Mo_divideBy_49 rfl ?_
    refine q_iload_n d_Mo_divideBy_51 rfl ?_
    refine q_i2l d_Mo_divideBy_52 ?_
    refine q_ldiv d_Mo_divideBy_53 o10 ?_
    refine q_l2i d_Mo_divideBy_54 o11 ?_
    refine p_iast d_Mo_divideBy_55 zk_709 o12 (fun D13 e14 => ?_)
    have h := h D13 e14
    obtain ⟨⟨o15, o16⟩, h⟩ := h
    refine q_lload d_Mo_divideBy_56 rfl ?_
    refine q_iload_n d_Mo_divideBy_58 rfl ?_
    refine q_i2l d_Mo_divideBy_59 ?_
    refine q_lrem d_Mo_divideBy_60 o15 ?_
    refine q_lstore_n d_Mo_divideBy_61 (by decide) (L' := [vR 708, vI x1, vI x2, vL (((x3 * 16777216) + (D 709 ((100 * x1) + x5))) % x2), vU, vI x5, vL ((x3 * 16777216) + (D 709 ((100 * x1) + x5))), vU]) rfl ?_
    refine q_iinc d_Mo_divideBy_62 rfl (by decide) o16 (L' := [vR 708, vI x1, vI x2, vL (((x3 * 16777216) + (D 709 ((100 * x1) + x5))) % x2), vU, vI (x5 + (-1)), vL ((x3 * 16777216) + (D 709 ((100 * x1) + x5))), vU]) rfl ?_
    refine q_goto (tgt := 12) d_Mo_divideBy_65 (by decide) ?_
    exact h
theorem s_Mo_divideBy_73 {z0 : VV} {z1 : VV} {z2 : VV} {x3 : Int} {z5 : VV} {z6 : VV} {z7 : VV}  (h : (R32 x3) ∧ Q (some (vI x3)) zE D) : Sg g M_Mo_divideBy Q 73 [z0, z1, z2, vL x3, vU, z5, z6, z7] [] D := by
  unfold Sg
  refine q_mask [true, true, true, false, false, true, true, true] (L' := [vU, vU, vU, vL x3, vU, vU, vU, vU]) rfl ?_
  obtain ⟨o1, h⟩ := h
  refine q_lload_n d_Mo_divideBy_73 rfl ?_
  refine q_l2i d_Mo_divideBy_74 o1 ?_
  exact q_iret d_Mo_divideBy_75 (Or.inl rfl) ⟨Nat.le_refl _, Nat.le_refl _⟩ h
theorem s_Mo_isEven_0 {x1 : Int}  (h : ((0 ≤ x1 ∧ x1 < 260)) ∧ (((D 710 x1) = 0 → Sg g M_Mo_isEven Q 23 [vR 708, vI x1] [] D) ∧ (¬ (D 710 x1) = 0 → (R32 (100 * x1) ∧ (0 ≤ 100 * x1 ∧ 100 * x1 < 26000) ∧ 0 ≤ D 709 (100 * x1)) ∧ ((¬ ((D 709 (100 * x1)) % 2) = 0 → Q (some (vI 0)) zE D) ∧ (((D 709 (100 * x1)) % 2) = 0 → Sg g M_Mo_isEven Q 23 [vR 708, vI x1] [] D))))) : Sg g M_Mo_isEven Q 0 [vR 708, vI x1] [] D := by
  unfold Sg
  obtain ⟨o1, h⟩ := h
  refine q_aload_n d_Mo_isEven_0 rfl ?_
  refine p_getR (k := 2) (b := 710) zc_Mo l_Mo_13 fr_Mo_sizes d_Mo_isEven_1 zk_708 rfl ?_
  refine q_iload_n d_Mo_isEven_4 rfl ?_
  refine p_iald d_Mo_isEven_5 zk_710 o1 ?_
  refine q_if_eq (tgt := 23) d_Mo_isEven_6 (by decide) (fun c2 => ?_) (fun c2 => ?_)
  · have h := h.1 (c2)
    exact h
  · have h := h.2 (c2)
    obtain ⟨⟨o3, o4, o5⟩, h⟩ := h
    refine q_aload_n d_Mo_isEven_9 rfl ?_
    refine p_getR (k := 1) (b := 709) zc_Mo l_Mo_7 fr_Mo_cells d_Mo_isEven_10 zk_708 rfl ?_
    refine q_bipush d_Mo_isEven_13 kb_100 ?_
    refine q_iload_n d_Mo_isEven_15 rfl ?_
    refine q_imul d_Mo_isEven_16 o3 ?_
    refine p_iald d_Mo_isEven_17 zk_709 o4 ?_
    refine q_iconst d_Mo_isEven_18 (by decide) ?_
    refine q_irem d_Mo_isEven_19 ⟨o5, by decide⟩ ?_
    refine q_if_ne (tgt := 27) d_Mo_isEven_20 (by decide) (fun c6 => ?_) (fun c6 => ?_)
    · have h := h.1 (c6)
      refine q_iconst d_Mo_isEven_27 (by decide) ?_
      exact q_iret d_Mo_isEven_28 (Or.inr ⟨rfl, by decide⟩) ⟨Nat.le_refl _, Nat.le_refl _⟩ h
    · have h := h.2 (c6)
      exact h
theorem s_Mo_isEven_23 {z0 : VV} {z1 : VV}  (h : Q (some (vI 1)) zE D) : Sg g M_Mo_isEven Q 23 [z0, z1] [] D := by
  unfold Sg
  refine q_mask [true, true] (L' := [vU, vU]) rfl ?_
  refine q_iconst d_Mo_isEven_23 (by decide) ?_
  refine q_goto (tgt := 28) d_Mo_isEven_24 (by decide) ?_
  exact q_iret d_Mo_isEven_28 (Or.inr ⟨rfl, by decide⟩) ⟨Nat.le_refl _, Nat.le_refl _⟩ h
theorem s_Mo_common_0 {x1 : Int} {x2 : Int}  (h : CV g M_Mo_copy [vR 708, vI x1, vI 248] D (fun D' => Sg g M_Mo_common Q 8 [vR 708, vI x1, vI x2, vU, vU] [] D')) : Sg g M_Mo_common Q 0 [vR 708, vI x1, vI x2, vU, vU] [] D := by
  unfold Sg
  refine q_aload_n d_Mo_common_0 rfl ?_
  refine q_iload_n d_Mo_common_1 rfl ?_
  refine q_sipush d_Mo_common_2 ks_248 ?_
  refine p_callV (as := [vI x1, vI 248]) (st := []) (a := 708) mc_Mo_copy mv_Mo_copy l_Mo_106 zc_Mo rfl d_Mo_common_5 rfl rfl rfl zk_708 (CV.to ?_)
  exact h
theorem s_Mo_common_8 {z1 : VV} {x2 : Int} {z3 : VV} {z4 : VV}  (h : CV g M_Mo_copy [vR 708, vI x2, vI 249] D (fun D' => Sg g M_Mo_common Q 16 [vR 708, vU, vI x2, vU, vU] [] D')) : Sg g M_Mo_common Q 8 [vR 708, z1, vI x2, z3, z4] [] D := by
  unfold Sg
  refine q_mask [false, true, false, true, true] (L' := [vR 708, vU, vI x2, vU, vU]) rfl ?_
  refine q_aload_n d_Mo_common_8 rfl ?_
  refine q_iload_n d_Mo_common_9 rfl ?_
  refine q_sipush d_Mo_common_10 ks_249 ?_
  refine p_callV (as := [vI x2, vI 249]) (st := []) (a := 708) mc_Mo_copy mv_Mo_copy l_Mo_106 zc_Mo rfl d_Mo_common_13 rfl rfl rfl zk_708 (CV.to ?_)
  exact h
theorem s_Mo_common_16 {z1 : VV} {z2 : VV} {z3 : VV} {z4 : VV}  (h : Sg g M_Mo_common Q 18 [vR 708, vU, vU, vI 0, vU] [] D) : Sg g M_Mo_common Q 16 [vR 708, z1, z2, z3, z4] [] D := by
  unfold Sg
  refine q_mask [false, true, true, true, true] (L' := [vR 708, vU, vU, vU, vU]) rfl ?_
  refine q_iconst d_Mo_common_16 (by decide) ?_
  refine q_istore_n d_Mo_common_17 (by decide) (L' := [vR 708, vU, vU, vI 0, vU]) rfl ?_
  exact h
theorem s_Mo_common_18 {z1 : VV} {z2 : VV} {x3 : Int} {z4 : VV}  (h : CI g M_Mo_isEven [vR 708, vI 248] D (fun v1 D' => Sg g M_Mo_common Q 25 [vR 708, vU, vU, vI x3, vU] [vI v1] D')) : Sg g M_Mo_common Q 18 [vR 708, z1, z2, vI x3, z4] [] D := by
  unfold Sg
  refine q_mask [false, true, true, false, true] (L' := [vR 708, vU, vU, vI x3, vU]) rfl ?_
  refine q_aload_n d_Mo_common_18 rfl ?_
  refine q_sipush d_Mo_common_19 ks_248 ?_
  refine p_callV (as := [vI 248]) (st := []) (a := 708) mc_Mo_isEven mv_Mo_isEven l_Mo_110 zc_Mo rfl d_Mo_common_22 rfl rfl rfl zk_708 (CI.to ?_)
  exact h
theorem s_Mo_common_25 {z1 : VV} {z2 : VV} {x3 : Int} {z4 : VV} {y0 : Int}  (h : ((y0 = 0 → Sg g M_Mo_common Q 63 [vR 708, vU, vU, vI x3, vU] [] D) ∧ (¬ y0 = 0 → CI g M_Mo_isEven [vR 708, vI 249] D (fun v2 D' => Sg g M_Mo_common Q 35 [vR 708, vU, vU, vI x3, vU] [vI v2] D')))) : Sg g M_Mo_common Q 25 [vR 708, z1, z2, vI x3, z4] [vI y0] D := by
  unfold Sg
  refine q_mask [false, true, true, false, true] (L' := [vR 708, vU, vU, vI x3, vU]) rfl ?_
  refine q_if_eq (tgt := 63) d_Mo_common_25 (by decide) (fun c1 => ?_) (fun c1 => ?_)
  · have h := h.1 (c1)
    exact h
  · have h := h.2 (c1)
    refine q_aload_n d_Mo_common_28 rfl ?_
    refine q_sipush d_Mo_common_29 ks_249 ?_
    refine p_callV (as := [vI 249]) (st := []) (a := 708) mc_Mo_isEven mv_Mo_isEven l_Mo_110 zc_Mo rfl d_Mo_common_32 rfl rfl rfl zk_708 (CI.to ?_)
    exact h
theorem s_Mo_common_63 {z1 : VV} {z2 : VV} {x3 : Int} {z4 : VV}  (h : (((D 710 249) ≤ 0 → Sg g M_Mo_common Q 198 [vR 708, vU, vU, vI x3, vI 0] [] D) ∧ (¬ (D 710 249) ≤ 0 → Sg g M_Mo_common Q 74 [vR 708, vU, vU, vI x3, vU] [] D))) : Sg g M_Mo_common Q 63 [vR 708, z1, z2, vI x3, z4] [] D := by
  unfold Sg
  refine q_mask [false, true, true, false, true] (L' := [vR 708, vU, vU, vI x3, vU]) rfl ?_
  refine q_aload_n d_Mo_common_63 rfl ?_
  refine p_getR (k := 2) (b := 710) zc_Mo l_Mo_13 fr_Mo_sizes d_Mo_common_64 zk_708 rfl ?_
  refine q_sipush d_Mo_common_67 ks_249 ?_
  refine p_iald d_Mo_common_70 zk_710 (by decide) ?_
  refine q_if_le (tgt := 195) d_Mo_common_71 (by decide) (fun c1 => ?_) (fun c1 => ?_)
  · have h := h.1 (c1)
    refine q_iconst d_Mo_common_195 (by decide) ?_
    refine q_istore d_Mo_common_196 (by decide) (L' := [vR 708, vU, vU, vI x3, vI 0]) rfl ?_
    exact h
  · have h := h.2 (c1)
    exact h
theorem s_Mo_common_35 {z1 : VV} {z2 : VV} {x3 : Int} {z4 : VV} {y0 : Int}  (h : ((y0 = 0 → Sg g M_Mo_common Q 63 [vR 708, vU, vU, vI x3, vU] [] D) ∧ (¬ y0 = 0 → CI g M_Mo_divideBy [vR 708, vI 248, vI 2] D (fun v2 D' => Sg g M_Mo_common Q 46 [vR 708, vU, vU, vI x3, vU] [vI v2] D')))) : Sg g M_Mo_common Q 35 [vR 708, z1, z2, vI x3, z4] [vI y0] D := by
  unfold Sg
  refine q_mask [false, true, true, false, true] (L' := [vR 708, vU, vU, vI x3, vU]) rfl ?_
  refine q_if_eq (tgt := 63) d_Mo_common_35 (by decide) (fun c1 => ?_) (fun c1 => ?_)
  · have h := h.1 (c1)
    exact h
  · have h := h.2 (c1)
    refine q_aload_n d_Mo_common_38 rfl ?_
    refine q_sipush d_Mo_common_39 ks_248 ?_
    refine q_iconst d_Mo_common_42 (by decide) ?_
    refine p_callV (as := [vI 248, vI 2]) (st := []) (a := 708) mc_Mo_divideBy mv_Mo_divideBy l_Mo_114 zc_Mo rfl d_Mo_common_43 rfl rfl rfl zk_708 (CI.to ?_)
    exact h
theorem s_Mo_common_198 {z1 : VV} {z2 : VV} {x3 : Int} {x4 : Int}  (h : ((x3 ≤ x4 → Q none zE D) ∧ (¬ x3 ≤ x4 → CV g M_Mo_multiplyBy [vR 708, vI 248, vI 2] D (fun D' => Sg g M_Mo_common Q 212 [vR 708, vU, vU, vI x3, vI x4] [] D')))) : Sg g M_Mo_common Q 198 [vR 708, z1, z2, vI x3, vI x4] [] D := by
  unfold Sg
  refine q_mask [false, true, true, false, false] (L' := [vR 708, vU, vU, vI x3, vI x4]) rfl ?_
  refine q_iload d_Mo_common_198 rfl ?_
  refine q_iload_n d_Mo_common_200 rfl ?_
  refine q_icmp_ge (tgt := 218) d_Mo_common_201 (by decide) (fun c1 => ?_) (fun c1 => ?_)
  · have h := h.1 (c1)
    exact q_vret d_Mo_common_218 rfl ⟨Nat.le_refl _, Nat.le_refl _⟩ h
  · have h := h.2 (c1)
    refine q_aload_n d_Mo_common_204 rfl ?_
    refine q_sipush d_Mo_common_205 ks_248 ?_
    refine q_iconst d_Mo_common_208 (by decide) ?_
    refine p_callV (as := [vI 248, vI 2]) (st := []) (a := 708) mc_Mo_multiplyBy mv_Mo_multiplyBy l_Mo_124 zc_Mo rfl d_Mo_common_209 rfl rfl rfl zk_708 (CV.to ?_)
    exact h
theorem s_Mo_common_74 {z1 : VV} {z2 : VV} {x3 : Int} {z4 : VV}  (h : CI g M_Mo_isEven [vR 708, vI 248] D (fun v1 D' => Sg g M_Mo_common Q 81 [vR 708, vU, vU, vI x3, vU] [vI v1] D')) : Sg g M_Mo_common Q 74 [vR 708, z1, z2, vI x3, z4] [] D := by
  unfold Sg
  refine q_mask [false, true, true, false, true] (L' := [vR 708, vU, vU, vI x3, vU]) rfl ?_
  refine q_aload_n d_Mo_common_74 rfl ?_
  refine q_sipush d_Mo_common_75 ks_248 ?_
  refine p_callV (as := [vI 248]) (st := []) (a := 708) mc_Mo_isEven mv_Mo_isEven l_Mo_110 zc_Mo rfl d_Mo_common_78 rfl rfl rfl zk_708 (CI.to ?_)
  exact h
theorem s_Mo_common_46 {z1 : VV} {z2 : VV} {x3 : Int} {z4 : VV} {y0 : Int}  (h : CI g M_Mo_divideBy [vR 708, vI 249, vI 2] D (fun v1 D' => Sg g M_Mo_common Q 54 [vR 708, vU, vU, vI x3, vU] [vI v1, vI y0] D')) : Sg g M_Mo_common Q 46 [vR 708, z1, z2, vI x3, z4] [vI y0] D := by
  unfold Sg
  refine q_mask [false, true, true, false, true] (L' := [vR 708, vU, vU, vI x3, vU]) rfl ?_
  refine q_aload_n d_Mo_common_46 rfl ?_
  refine q_sipush d_Mo_common_47 ks_249 ?_
  refine q_iconst d_Mo_common_50 (by decide) ?_
  refine p_callV (as := [vI 249, vI 2]) (st := [vI y0]) (a := 708) mc_Mo_divideBy mv_Mo_divideBy l_Mo_114 zc_Mo rfl d_Mo_common_51 rfl rfl rfl zk_708 (CI.to ?_)
  exact h
theorem s_Mo_common_212 {z1 : VV} {z2 : VV} {x3 : Int} {x4 : Int}  (h : (R32 (x4 + 1)) ∧ Sg g M_Mo_common Q 198 [vR 708, vU, vU, vI x3, vI (x4 + 1)] [] D) : Sg g M_Mo_common Q 212 [vR 708, z1, z2, vI x3, vI x4] [] D := by
  unfold Sg
  refine q_mask [false, true, true, false, false] (L' := [vR 708, vU, vU, vI x3, vI x4]) rfl ?_
  obtain ⟨o1, h⟩ := h
  refine q_iinc d_Mo_common_212 rfl (by decide) o1 (L' := [vR 708, vU, vU, vI x3, vI (x4 + 1)]) rfl ?_
  refine q_goto (tgt := 198) d_Mo_common_215 (by decide) ?_
  exact h
theorem s_Mo_common_81 {z1 : VV} {z2 : VV} {x3 : Int} {z4 : VV} {y0 : Int}  (h : ((y0 = 0 → Sg g M_Mo_common Q 97 [vR 708, vU, vU, vI x3, vU] [] D) ∧ (¬ y0 = 0 → CI g M_Mo_divideBy [vR 708, vI 248, vI 2] D (fun v2 D' => Sg g M_Mo_common Q 92 [vR 708, vU, vU, vI x3, vU] [vI v2] D')))) : Sg g M_Mo_common Q 81 [vR 708, z1, z2, vI x3, z4] [vI y0] D := by
  unfold Sg
  refine q_mask [false, true, true, false, true] (L' := [vR 708, vU, vU, vI x3, vU]) rfl ?_
  refine q_if_eq (tgt := 97) d_Mo_common_81 (by decide) (fun c1 => ?_) (fun c1 => ?_)
  · have h := h.1 (c1)
    exact h
  · have h := h.2 (c1)
    refine q_aload_n d_Mo_common_84 rfl ?_
    refine q_sipush d_Mo_common_85 ks_248 ?_
    refine q_iconst d_Mo_common_88 (by decide) ?_
    refine p_callV (as := [vI 248, vI 2]) (st := []) (a := 708) mc_Mo_divideBy mv_Mo_divideBy l_Mo_114 zc_Mo rfl d_Mo_common_89 rfl rfl rfl zk_708 (CI.to ?_)
    exact h
theorem s_Mo_common_54 {z1 : VV} {z2 : VV} {x3 : Int} {z4 : VV} {y0 : Int} {y1 : Int}  (h : (R32 (y1 + y0) ∧ R32 (x3 + 1)) ∧ Sg g M_Mo_common Q 18 [vR 708, vU, vU, vI (x3 + 1), vI (y1 + y0)] [] D) : Sg g M_Mo_common Q 54 [vR 708, z1, z2, vI x3, z4] [vI y0, vI y1] D := by
  unfold Sg
  refine q_mask [false, true, true, false, true] (L' := [vR 708, vU, vU, vI x3, vU]) rfl ?_
  obtain ⟨⟨o1, o2⟩, h⟩ := h
  refine q_iadd d_Mo_common_54 o1 ?_
  refine q_istore d_Mo_common_55 (by decide) (L' := [vR 708, vU, vU, vI x3, vI (y1 + y0)]) rfl ?_
  refine q_iinc d_Mo_common_57 rfl (by decide) o2 (L' := [vR 708, vU, vU, vI (x3 + 1), vI (y1 + y0)]) rfl ?_
  refine q_goto (tgt := 18) d_Mo_common_60 (by decide) ?_
  exact h
theorem s_Mo_common_97 {z1 : VV} {z2 : VV} {x3 : Int} {z4 : VV}  (h : CI g M_Mo_isEven [vR 708, vI 249] D (fun v1 D' => Sg g M_Mo_common Q 104 [vR 708, vU, vU, vI x3, vU] [vI v1] D')) : Sg g M_Mo_common Q 97 [vR 708, z1, z2, vI x3, z4] [] D := by
  unfold Sg
  refine q_mask [false, true, true, false, true] (L' := [vR 708, vU, vU, vI x3, vU]) rfl ?_
  refine q_aload_n d_Mo_common_97 rfl ?_
  refine q_sipush d_Mo_common_98 ks_249 ?_
  refine p_callV (as := [vI 249]) (st := []) (a := 708) mc_Mo_isEven mv_Mo_isEven l_Mo_110 zc_Mo rfl d_Mo_common_101 rfl rfl rfl zk_708 (CI.to ?_)
  exact h
theorem s_Mo_common_92 {z1 : VV} {z2 : VV} {x3 : Int} {z4 : VV} {y0 : Int}  (h : Sg g M_Mo_common Q 74 [vR 708, vU, vU, vI x3, vI y0] [] D) : Sg g M_Mo_common Q 92 [vR 708, z1, z2, vI x3, z4] [vI y0] D := by
  unfold Sg
  refine q_mask [false, true, true, false, true] (L' := [vR 708, vU, vU, vI x3, vU]) rfl ?_
  refine q_istore d_Mo_common_92 (by decide) (L' := [vR 708, vU, vU, vI x3, vI y0]) rfl ?_
  refine q_goto (tgt := 74) d_Mo_common_94 (by decide) ?_
  exact h
theorem s_Mo_common_104 {z1 : VV} {z2 : VV} {x3 : Int} {z4 : VV} {y0 : Int}  (h : ((y0 = 0 → CI g M_Mo_order [vR 708, vI 248, vI 249] D (fun v2 D' => Sg g M_Mo_common Q 130 [vR 708, vU, vU, vI x3, vU] [vI v2] D')) ∧ (¬ y0 = 0 → CI g M_Mo_divideBy [vR 708, vI 249, vI 2] D (fun v3 D' => Sg g M_Mo_common Q 115 [vR 708, vU, vU, vI x3, vU] [vI v3] D')))) : Sg g M_Mo_common Q 104 [vR 708, z1, z2, vI x3, z4] [vI y0] D := by
  unfold Sg
  refine q_mask [false, true, true, false, true] (L' := [vR 708, vU, vU, vI x3, vU]) rfl ?_
  refine q_if_eq (tgt := 120) d_Mo_common_104 (by decide) (fun c1 => ?_) (fun c1 => ?_)
  · have h := h.1 (c1)
    refine q_aload_n d_Mo_common_120 rfl ?_
    refine q_sipush d_Mo_common_121 ks_248 ?_
    refine q_sipush d_Mo_common_124 ks_249 ?_
    refine p_callV (as := [vI 248, vI 249]) (st := []) (a := 708) mc_Mo_order mv_Mo_order l_Mo_117 zc_Mo rfl d_Mo_common_127 rfl rfl rfl zk_708 (CI.to ?_)
    exact h
  · have h := h.2 (c1)
    refine q_aload_n d_Mo_common_107 rfl ?_
    refine q_sipush d_Mo_common_108 ks_249 ?_
    refine q_iconst d_Mo_common_111 (by decide) ?_
    refine p_callV (as := [vI 249, vI 2]) (st := []) (a := 708) mc_Mo_divideBy mv_Mo_divideBy l_Mo_114 zc_Mo rfl d_Mo_common_112 rfl rfl rfl zk_708 (CI.to ?_)
    exact h
theorem s_Mo_common_130 {z1 : VV} {z2 : VV} {x3 : Int} {z4 : VV} {y0 : Int}  (h : ((y0 ≤ 0 → CV g M_Mo_subtract [vR 708, vI 249, vI 248, vI 249] D (fun D' => Sg g M_Mo_common Q 192 [vR 708, vU, vU, vI x3, vU] [] D')) ∧ (¬ y0 ≤ 0 → CV g M_Mo_subtract [vR 708, vI 248, vI 249, vI 248] D (fun D' => Sg g M_Mo_common Q 146 [vR 708, vU, vU, vI x3, vU] [] D')))) : Sg g M_Mo_common Q 130 [vR 708, z1, z2, vI x3, z4] [vI y0] D := by
  unfold Sg
  refine q_mask [false, true, true, false, true] (L' := [vR 708, vU, vU, vI x3, vU]) rfl ?_
  refine q_if_le (tgt := 179) d_Mo_common_130 (by decide) (fun c1 => ?_) (fun c1 => ?_)
  · have h := h.1 (c1)
    refine q_aload_n d_Mo_common_179 rfl ?_
    refine q_sipush d_Mo_common_180 ks_249 ?_
    refine q_sipush d_Mo_common_183 ks_248 ?_
    refine q_sipush d_Mo_common_186 ks_249 ?_
    refine p_callV (as := [vI 249, vI 248, vI 249]) (st := []) (a := 708) mc_Mo_subtract mv_Mo_subtract l_Mo_120 zc_Mo rfl d_Mo_common_189 rfl rfl rfl zk_708 (CV.to ?_)
    exact h
  · have h := h.2 (c1)
    refine q_aload_n d_Mo_common_133 rfl ?_
    refine q_sipush d_Mo_common_134 ks_248 ?_
    refine q_sipush d_Mo_common_137 ks_249 ?_
    refine q_sipush d_Mo_common_140 ks_248 ?_
    refine p_callV (as := [vI 248, vI 249, vI 248]) (st := []) (a := 708) mc_Mo_subtract mv_Mo_subtract l_Mo_120 zc_Mo rfl d_Mo_common_143 rfl rfl rfl zk_708 (CV.to ?_)
    exact h
theorem s_Mo_common_115 {z1 : VV} {z2 : VV} {x3 : Int} {z4 : VV} {y0 : Int}  (h : Sg g M_Mo_common Q 97 [vR 708, vU, vU, vI x3, vI y0] [] D) : Sg g M_Mo_common Q 115 [vR 708, z1, z2, vI x3, z4] [vI y0] D := by
  unfold Sg
  refine q_mask [false, true, true, false, true] (L' := [vR 708, vU, vU, vI x3, vU]) rfl ?_
  refine q_istore d_Mo_common_115 (by decide) (L' := [vR 708, vU, vU, vI x3, vI y0]) rfl ?_
  refine q_goto (tgt := 97) d_Mo_common_117 (by decide) ?_
  exact h
theorem s_Mo_common_192 {z1 : VV} {z2 : VV} {x3 : Int} {z4 : VV}  (h : Sg g M_Mo_common Q 63 [vR 708, vU, vU, vI x3, vU] [] D) : Sg g M_Mo_common Q 192 [vR 708, z1, z2, vI x3, z4] [] D := by
  unfold Sg
  refine q_mask [false, true, true, false, true] (L' := [vR 708, vU, vU, vI x3, vU]) rfl ?_
  refine q_goto (tgt := 63) d_Mo_common_192 (by decide) ?_
  exact h
theorem s_Mo_common_146 {z1 : VV} {z2 : VV} {x3 : Int} {z4 : VV}  (h : CV g M_Mo_copy [vR 708, vI 248, vI 250] D (fun D' => Sg g M_Mo_common Q 156 [vR 708, vU, vU, vI x3, vU] [] D')) : Sg g M_Mo_common Q 146 [vR 708, z1, z2, vI x3, z4] [] D := by
  unfold Sg
  refine q_mask [false, true, true, false, true] (L' := [vR 708, vU, vU, vI x3, vU]) rfl ?_
  refine q_aload_n d_Mo_common_146 rfl ?_
  refine q_sipush d_Mo_common_147 ks_248 ?_
  refine q_sipush d_Mo_common_150 ks_250 ?_
  refine p_callV (as := [vI 248, vI 250]) (st := []) (a := 708) mc_Mo_copy mv_Mo_copy l_Mo_106 zc_Mo rfl d_Mo_common_153 rfl rfl rfl zk_708 (CV.to ?_)
  exact h
theorem s_Mo_common_156 {z1 : VV} {z2 : VV} {x3 : Int} {z4 : VV}  (h : CV g M_Mo_copy [vR 708, vI 249, vI 248] D (fun D' => Sg g M_Mo_common Q 166 [vR 708, vU, vU, vI x3, vU] [] D')) : Sg g M_Mo_common Q 156 [vR 708, z1, z2, vI x3, z4] [] D := by
  unfold Sg
  refine q_mask [false, true, true, false, true] (L' := [vR 708, vU, vU, vI x3, vU]) rfl ?_
  refine q_aload_n d_Mo_common_156 rfl ?_
  refine q_sipush d_Mo_common_157 ks_249 ?_
  refine q_sipush d_Mo_common_160 ks_248 ?_
  refine p_callV (as := [vI 249, vI 248]) (st := []) (a := 708) mc_Mo_copy mv_Mo_copy l_Mo_106 zc_Mo rfl d_Mo_common_163 rfl rfl rfl zk_708 (CV.to ?_)
  exact h
theorem s_Mo_common_166 {z1 : VV} {z2 : VV} {x3 : Int} {z4 : VV}  (h : CV g M_Mo_copy [vR 708, vI 250, vI 249] D (fun D' => Sg g M_Mo_common Q 176 [vR 708, vU, vU, vI x3, vU] [] D')) : Sg g M_Mo_common Q 166 [vR 708, z1, z2, vI x3, z4] [] D := by
  unfold Sg
  refine q_mask [false, true, true, false, true] (L' := [vR 708, vU, vU, vI x3, vU]) rfl ?_
  refine q_aload_n d_Mo_common_166 rfl ?_
  refine q_sipush d_Mo_common_167 ks_250 ?_
  refine q_sipush d_Mo_common_170 ks_249 ?_
  refine p_callV (as := [vI 250, vI 249]) (st := []) (a := 708) mc_Mo_copy mv_Mo_copy l_Mo_106 zc_Mo rfl d_Mo_common_173 rfl rfl rfl zk_708 (CV.to ?_)
  exact h
theorem s_Mo_common_176 {z1 : VV} {z2 : VV} {x3 : Int} {z4 : VV}  (h : Sg g M_Mo_common Q 63 [vR 708, vU, vU, vI x3, vU] [] D) : Sg g M_Mo_common Q 176 [vR 708, z1, z2, vI x3, z4] [] D := by
  unfold Sg
  refine q_mask [false, true, true, false, true] (L' := [vR 708, vU, vU, vI x3, vU]) rfl ?_
  refine q_goto (tgt := 63) d_Mo_common_176 (by decide) ?_
  exact h
theorem s_Mo_divide_0 {x1 : Int}  (h : CV g M_Mo_copy [vR 708, vI x1, vI 251] D (fun D' => Sg g M_Mo_divide Q 8 [vR 708, vI x1, vU, vU, vU] [] D')) : Sg g M_Mo_divide Q 0 [vR 708, vI x1, vU, vU, vU] [] D := by
  unfold Sg
  refine q_aload_n d_Mo_divide_0 rfl ?_
  refine q_iload_n d_Mo_divide_1 rfl ?_
  refine q_sipush d_Mo_divide_2 ks_251 ?_
  refine p_callV (as := [vI x1, vI 251]) (st := []) (a := 708) mc_Mo_copy mv_Mo_copy l_Mo_106 zc_Mo rfl d_Mo_divide_5 rfl rfl rfl zk_708 (CV.to ?_)
  exact h
theorem s_Mo_divide_8 {x1 : Int} {z2 : VV} {z3 : VV} {z4 : VV}  (h : (∀ D1, D1 = zw D 710 252 0 → (R32 ((D1 710 251) - 1)) ∧ Sg g M_Mo_divide Q 28 [vR 708, vI x1, vI ((D1 710 251) - 1), vU, vU] [] D1)) : Sg g M_Mo_divide Q 8 [vR 708, vI x1, z2, z3, z4] [] D := by
  unfold Sg
  refine q_mask [false, false, true, true, true] (L' := [vR 708, vI x1, vU, vU, vU]) rfl ?_
  refine q_aload_n d_Mo_divide_8 rfl ?_
  refine p_getR (k := 2) (b := 710) zc_Mo l_Mo_13 fr_Mo_sizes d_Mo_divide_9 zk_708 rfl ?_
  refine q_sipush d_Mo_divide_12 ks_252 ?_
  refine q_iconst d_Mo_divide_15 (by decide) ?_
  refine p_iast d_Mo_divide_16 zk_710 (by decide) (fun D1 e2 => ?_)
  have h := h D1 e2
  obtain ⟨o3, h⟩ := h
  refine q_aload_n d_Mo_divide_17 rfl ?_
  refine p_getR (k := 2) (b := 710) zc_Mo l_Mo_13 fr_Mo_sizes d_Mo_divide_18 zk_708 rfl ?_
  refine q_sipush d_Mo_divide_21 ks_251 ?_
  refine p_iald d_Mo_divide_24 zk_710 (by decide) ?_
  refine q_iconst d_Mo_divide_25 (by decide) ?_
  refine q_isub d_Mo_divide_26 o3 ?_
  refine q_istore_n d_Mo_divide_27 (by decide) (L' := [vR 708, vI x1, vI ((D1 710 251) - 1), vU, vU]) rfl ?_
  exact h
theorem s_Mo_divide_28 {x1 : Int} {x2 : Int} {z3 : VV} {z4 : VV}  (h : ((x2 < 0 → CV g M_Mo_trim [vR 708, vI x1] D (fun D' => Sg g M_Mo_divide Q 166 [vR 708, vI x1, vI x2, vU, vU] [] D')) ∧ (¬ x2 < 0 → Sg g M_Mo_divide Q 38 [vR 708, vI x1, vI x2, vI 0, vI 23] [] D))) : Sg g M_Mo_divide Q 28 [vR 708, vI x1, vI x2, z3, z4] [] D := by
  unfold Sg
  refine q_mask [false, false, false, true, true] (L' := [vR 708, vI x1, vI x2, vU, vU]) rfl ?_
  refine q_iload_n d_Mo_divide_28 rfl ?_
  refine q_if_lt (tgt := 161) d_Mo_divide_29 (by decide) (fun c1 => ?_) (fun c1 => ?_)
  · have h := h.1 (c1)
    refine q_aload_n d_Mo_divide_161 rfl ?_
    refine q_iload_n d_Mo_divide_162 rfl ?_
    refine p_callV (as := [vI x1]) (st := []) (a := 708) mc_Mo_trim mv_Mo_trim l_Mo_102 zc_Mo rfl d_Mo_divide_163 rfl rfl rfl zk_708 (CV.to ?_)
    exact h
  · have h := h.2 (c1)
    refine q_iconst d_Mo_divide_32 (by decide) ?_
    refine q_istore_n d_Mo_divide_33 (by decide) (L' := [vR 708, vI x1, vI x2, vI 0, vU]) rfl ?_
    refine q_bipush d_Mo_divide_34 kb_23 ?_
    refine q_istore d_Mo_divide_36 (by decide) (L' := [vR 708, vI x1, vI x2, vI 0, vI 23]) rfl ?_
    exact h
theorem s_Mo_divide_166 {z0 : VV} {z1 : VV} {z2 : VV} {z3 : VV} {z4 : VV}  (h : Q none zE D) : Sg g M_Mo_divide Q 166 [z0, z1, z2, z3, z4] [] D := by
  unfold Sg
  refine q_mask [true, true, true, true, true] (L' := [vU, vU, vU, vU, vU]) rfl ?_
  exact q_vret d_Mo_divide_166 rfl ⟨Nat.le_refl _, Nat.le_refl _⟩ h
theorem s_Mo_divide_38 {x1 : Int} {x2 : Int} {x3 : Int} {x4 : Int}  (h : ((x4 < 0 → (R32 (100 * x1) ∧ R32 ((100 * x1) + x2) ∧ (0 ≤ (100 * x1) + x2 ∧ (100 * x1) + x2 < 26000)) ∧ (∀ D5, D5 = zw D 709 ((100 * x1) + x2) x3 → (R32 (x2 + (-1))) ∧ Sg g M_Mo_divide Q 28 [vR 708, vI x1, vI (x2 + (-1)), vI x3, vI x4] [] D5)) ∧ (¬ x4 < 0 → CV g M_Mo_multiplyBy [vR 708, vI 252, vI 2] D (fun D' => Sg g M_Mo_divide Q 51 [vR 708, vI x1, vI x2, vI x3, vI x4] [] D')))) : Sg g M_Mo_divide Q 38 [vR 708, vI x1, vI x2, vI x3, vI x4] [] D := by
  unfold Sg
  refine q_iload d_Mo_divide_38 rfl ?_
  refine q_if_lt (tgt := 143) d_Mo_divide_40 (by decide) (fun c1 => ?_) (fun c1 => ?_)
  · have h := h.1 (c1)
    obtain ⟨⟨o2, o3, o4⟩, h⟩ := h
    refine q_aload_n d_Mo_divide_143 rfl ?_
    refine p_getR (k := 1) (b := 709) zc_Mo l_Mo_7 fr_Mo_cells d_Mo_divide_144 zk_708 rfl ?_
    refine q_bipush d_Mo_divide_147 kb_100 ?_
    refine q_iload_n d_Mo_divide_149 rfl ?_
    refine q_imul d_Mo_divide_150 o2 ?_
    refine q_iload_n d_Mo_divide_151 rfl ?_
    refine q_iadd d_Mo_divide_152 o3 ?_
    refine q_iload_n d_Mo_divide_153 rfl ?_
    refine p_iast d_Mo_divide_154 zk_709 o4 (fun D5 e6 => ?_)
    have h := h D5 e6
    obtain ⟨o7, h⟩ := h
    refine q_iinc d_Mo_divide_155 rfl (by decide) o7 (L' := [vR 708, vI x1, vI (x2 + (-1)), vI x3, vI x4]) rfl ?_
    refine q_goto (tgt := 28) d_Mo_divide_158 (by decide) ?_
    exact h
  · have h := h.2 (c1)
    refine q_aload_n d_Mo_divide_43 rfl ?_
    refine q_sipush d_Mo_divide_44 ks_252 ?_
    refine q_iconst d_Mo_divide_47 (by decide) ?_
    refine p_callV (as := [vI 252, vI 2]) (st := []) (a := 708) mc_Mo_multiplyBy mv_Mo_multiplyBy l_Mo_124 zc_Mo rfl d_Mo_divide_48 rfl rfl rfl zk_708 (CV.to ?_)
    exact h
theorem s_Mo_divide_51 {x1 : Int} {x2 : Int} {x3 : Int} {x4 : Int}  (h : (R32 (25100 + x2) ∧ (0 ≤ 25100 + x2 ∧ 25100 + x2 < 26000) ∧ (0 ≤ x4 ∧ x4 < 32)) ∧ ((¬ (((D 709 (25100 + x2)) / 2 ^ x4.toNat) % 2 ^ 1) = 1 → Sg g M_Mo_divide Q 104 [vR 708, vI x1, vI x2, vI x3, vI x4] [] D) ∧ ((((D 709 (25100 + x2)) / 2 ^ x4.toNat) % 2 ^ 1) = 1 → ((¬ (D 710 252) = 0 → (R32 ((D 709 25200) + 1)) ∧ (∀ D7, D7 = zw D 709 25200 ((D 709 25200) + 1) → Sg g M_Mo_divide Q 104 [vR 708, vI x1, vI x2, vI x3, vI x4] [] D7)) ∧ ((D 710 252) = 0 → CV g M_Mo_set [vR 708, vI 252, vL 1] D (fun D' => Sg g M_Mo_divide Q 89 [vR 708, vI x1, vI x2, vI x3, vI x4] [] D')))))) : Sg g M_Mo_divide Q 51 [vR 708, vI x1, vI x2, vI x3, vI x4] [] D := by
  unfold Sg
  obtain ⟨⟨o1, o2, o3⟩, h⟩ := h
  refine q_aload_n d_Mo_divide_51 rfl ?_
  refine p_getR (k := 1) (b := 709) zc_Mo l_Mo_7 fr_Mo_cells d_Mo_divide_52 zk_708 rfl ?_
  refine q_sipush d_Mo_divide_55 ks_25100 ?_
  refine q_iload_n d_Mo_divide_58 rfl ?_
  refine q_iadd d_Mo_divide_59 o1 ?_
  refine p_iald d_Mo_divide_60 zk_709 o2 ?_
  refine q_iload d_Mo_divide_61 rfl ?_
  refine q_ishr d_Mo_divide_63 o3 ?_
  refine q_iconst d_Mo_divide_64 (by decide) ?_
  refine q_iand 1 d_Mo_divide_65 ⟨by decide +kernel, by decide⟩ ?_
  refine q_iconst d_Mo_divide_66 (by decide) ?_
  refine q_icmp_ne (tgt := 104) d_Mo_divide_67 (by decide) (fun c4 => ?_) (fun c4 => ?_)
  · have h := h.1 (c4)
    exact h
  · have h := h.2 (c4)
    refine q_aload_n d_Mo_divide_70 rfl ?_
    refine p_getR (k := 2) (b := 710) zc_Mo l_Mo_13 fr_Mo_sizes d_Mo_divide_71 zk_708 rfl ?_
    refine q_sipush d_Mo_divide_74 ks_252 ?_
    refine p_iald d_Mo_divide_77 zk_710 (by decide) ?_
    refine q_if_ne (tgt := 92) d_Mo_divide_78 (by decide) (fun c5 => ?_) (fun c5 => ?_)
    · have h := h.1 (c5)
      obtain ⟨o6, h⟩ := h
      refine q_aload_n d_Mo_divide_92 rfl ?_
      refine p_getR (k := 1) (b := 709) zc_Mo l_Mo_7 fr_Mo_cells d_Mo_divide_93 zk_708 rfl ?_
      refine q_sipush d_Mo_divide_96 ks_25200 ?_
      refine q_dup2 d_Mo_divide_99 ⟨rfl, rfl⟩ ?_
      refine p_iald d_Mo_divide_100 zk_709 (by decide) ?_
      refine q_iconst d_Mo_divide_101 (by decide) ?_
      refine q_iadd d_Mo_divide_102 o6 ?_
      refine p_iast d_Mo_divide_103 zk_709 (by decide) (fun D7 e8 => ?_)
      have h := h D7 e8
      exact h
    · have h := h.2 (c5)
      refine q_aload_n d_Mo_divide_81 rfl ?_
      refine q_sipush d_Mo_divide_82 ks_252 ?_
      refine q_lconst (x := 1) d_Mo_divide_85 ⟨rfl, by decide⟩ ?_
      refine p_callV (as := [vI 252, vL 1]) (st := []) (a := 708) mc_Mo_set mv_Mo_set l_Mo_127 zc_Mo rfl d_Mo_divide_86 rfl rfl rfl zk_708 (CV.to ?_)
      exact h
theorem s_Mo_divide_104 {x1 : Int} {x2 : Int} {x3 : Int} {x4 : Int}  (h : CI g M_Mo_order [vR 708, vI 252, vI 248] D (fun v1 D' => Sg g M_Mo_divide Q 114 [vR 708, vI x1, vI x2, vI x3, vI x4] [vI v1] D')) : Sg g M_Mo_divide Q 104 [vR 708, vI x1, vI x2, vI x3, vI x4] [] D := by
  unfold Sg
  refine q_aload_n d_Mo_divide_104 rfl ?_
  refine q_sipush d_Mo_divide_105 ks_252 ?_
  refine q_sipush d_Mo_divide_108 ks_248 ?_
  refine p_callV (as := [vI 252, vI 248]) (st := []) (a := 708) mc_Mo_order mv_Mo_order l_Mo_117 zc_Mo rfl d_Mo_divide_111 rfl rfl rfl zk_708 (CI.to ?_)
  exact h
theorem s_Mo_divide_89 {x1 : Int} {x2 : Int} {x3 : Int} {x4 : Int}  (h : Sg g M_Mo_divide Q 104 [vR 708, vI x1, vI x2, vI x3, vI x4] [] D) : Sg g M_Mo_divide Q 89 [vR 708, vI x1, vI x2, vI x3, vI x4] [] D := by
  unfold Sg
  refine q_goto (tgt := 104) d_Mo_divide_89 (by decide) ?_
  exact h
theorem s_Mo_divide_114 {x1 : Int} {x2 : Int} {x3 : Int} {x4 : Int} {y0 : Int}  (h : ((y0 < 0 → Sg g M_Mo_divide Q 137 [vR 708, vI x1, vI x2, vI x3, vI x4] [] D) ∧ (¬ y0 < 0 → CV g M_Mo_subtract [vR 708, vI 252, vI 248, vI 252] D (fun D' => Sg g M_Mo_divide Q 130 [vR 708, vI x1, vI x2, vI x3, vI x4] [] D')))) : Sg g M_Mo_divide Q 114 [vR 708, vI x1, vI x2, vI x3, vI x4] [vI y0] D := by
  unfold Sg
  refine q_if_lt (tgt := 137) d_Mo_divide_114 (by decide) (fun c1 => ?_) (fun c1 => ?_)
  · have h := h.1 (c1)
    exact h
  · have h := h.2 (c1)
    refine q_aload_n d_Mo_divide_117 rfl ?_
    refine q_sipush d_Mo_divide_118 ks_252 ?_
    refine q_sipush d_Mo_divide_121 ks_248 ?_
    refine q_sipush d_Mo_divide_124 ks_252 ?_
    refine p_callV (as := [vI 252, vI 248, vI 252]) (st := []) (a := 708) mc_Mo_subtract mv_Mo_subtract l_Mo_120 zc_Mo rfl d_Mo_divide_127 rfl rfl rfl zk_708 (CV.to ?_)
    exact h
theorem s_Mo_divide_137 {x1 : Int} {x2 : Int} {x3 : Int} {x4 : Int}  (h : (R32 (x4 + (-1))) ∧ Sg g M_Mo_divide Q 38 [vR 708, vI x1, vI x2, vI x3, vI (x4 + (-1))] [] D) : Sg g M_Mo_divide Q 137 [vR 708, vI x1, vI x2, vI x3, vI x4] [] D := by
  unfold Sg
  obtain ⟨o1, h⟩ := h
  refine q_iinc d_Mo_divide_137 rfl (by decide) o1 (L' := [vR 708, vI x1, vI x2, vI x3, vI (x4 + (-1))]) rfl ?_
  refine q_goto (tgt := 38) d_Mo_divide_140 (by decide) ?_
  exact h
theorem s_Mo_divide_130 {x1 : Int} {x2 : Int} {x3 : Int} {x4 : Int}  (h : (((0 ≤ x4 ∧ x4 < 32) ∧ R32 (1 * 2 ^ x4.toNat)) ∧ (zdis x3 (1 * 2 ^ x4.toNat) ∧ R32 (x3 + (1 * 2 ^ x4.toNat)))) ∧ Sg g M_Mo_divide Q 137 [vR 708, vI x1, vI x2, vI (x3 + (1 * 2 ^ x4.toNat)), vI x4] [] D) : Sg g M_Mo_divide Q 130 [vR 708, vI x1, vI x2, vI x3, vI x4] [] D := by
  unfold Sg
  obtain ⟨⟨o1, o2⟩, h⟩ := h
  refine q_iload_n d_Mo_divide_130 rfl ?_
  refine q_iconst d_Mo_divide_131 (by decide) ?_
  refine q_iload d_Mo_divide_132 rfl ?_
  refine q_ishl d_Mo_divide_134 o1 ?_
  refine q_ior d_Mo_divide_135 o2 ?_
  refine q_istore_n d_Mo_divide_136 (by decide) (L' := [vR 708, vI x1, vI x2, vI (x3 + (1 * 2 ^ x4.toNat)), vI x4]) rfl ?_
  exact h
theorem s_Mo_reduce_0 {x1 : Int}  (h : (R32 (2 * x1) ∧ (0 ≤ 2 * x1 ∧ 2 * x1 < 260)) ∧ ((¬ (D 710 (2 * x1)) = 0 → (R32 (2 * x1) ∧ R32 (2 * x1) ∧ R32 ((2 * x1) + 1)) ∧ CV g M_Mo_common [vR 708, vI (2 * x1), vI ((2 * x1) + 1)] D (fun D' => Sg g M_Mo_reduce Q 34 [vR 708, vI x1] [] D')) ∧ ((D 710 (2 * x1)) = 0 → (R32 (2 * x1) ∧ R32 ((2 * x1) + 1)) ∧ CV g M_Mo_set [vR 708, vI ((2 * x1) + 1), vL 1] D (fun D' => Sg g M_Mo_reduce Q 21 [vR 708, vI x1] [] D')))) : Sg g M_Mo_reduce Q 0 [vR 708, vI x1] [] D := by
  unfold Sg
  obtain ⟨⟨o1, o2⟩, h⟩ := h
  refine q_aload_n d_Mo_reduce_0 rfl ?_
  refine p_getR (k := 2) (b := 710) zc_Mo l_Mo_13 fr_Mo_sizes d_Mo_reduce_1 zk_708 rfl ?_
  refine q_iconst d_Mo_reduce_4 (by decide) ?_
  refine q_iload_n d_Mo_reduce_5 rfl ?_
  refine q_imul d_Mo_reduce_6 o1 ?_
  refine p_iald d_Mo_reduce_7 zk_710 o2 ?_
  refine q_if_ne (tgt := 22) d_Mo_reduce_8 (by decide) (fun c3 => ?_) (fun c3 => ?_)
  · have h := h.1 (c3)
    obtain ⟨⟨o4, o5, o6⟩, h⟩ := h
    refine q_aload_n d_Mo_reduce_22 rfl ?_
    refine q_iconst d_Mo_reduce_23 (by decide) ?_
    refine q_iload_n d_Mo_reduce_24 rfl ?_
    refine q_imul d_Mo_reduce_25 o4 ?_
    refine q_iconst d_Mo_reduce_26 (by decide) ?_
    refine q_iload_n d_Mo_reduce_27 rfl ?_
    refine q_imul d_Mo_reduce_28 o5 ?_
    refine q_iconst d_Mo_reduce_29 (by decide) ?_
    refine q_iadd d_Mo_reduce_30 o6 ?_
    refine p_callV (as := [vI (2 * x1), vI ((2 * x1) + 1)]) (st := []) (a := 708) mc_Mo_common mv_Mo_common l_Mo_131 zc_Mo rfl d_Mo_reduce_31 rfl rfl rfl zk_708 (CV.to ?_)
    exact h
  · have h := h.2 (c3)
    obtain ⟨⟨o8, o9⟩, h⟩ := h
    refine q_aload_n d_Mo_reduce_11 rfl ?_
    refine q_iconst d_Mo_reduce_12 (by decide) ?_
    refine q_iload_n d_Mo_reduce_13 rfl ?_
    refine q_imul d_Mo_reduce_14 o8 ?_
    refine q_iconst d_Mo_reduce_15 (by decide) ?_
    refine q_iadd d_Mo_reduce_16 o9 ?_
    refine q_lconst (x := 1) d_Mo_reduce_17 ⟨rfl, by decide⟩ ?_
    refine p_callV (as := [vI ((2 * x1) + 1), vL 1]) (st := []) (a := 708) mc_Mo_set mv_Mo_set l_Mo_127 zc_Mo rfl d_Mo_reduce_18 rfl rfl rfl zk_708 (CV.to ?_)
    exact h
theorem s_Mo_reduce_34 {x1 : Int}  (h : ((¬ (D 710 248) = 1 → Sg g M_Mo_reduce Q 59 [vR 708, vI x1] [] D) ∧ ((D 710 248) = 1 → ((¬ (D 709 24800) = 1 → Sg g M_Mo_reduce Q 59 [vR 708, vI x1] [] D) ∧ ((D 709 24800) = 1 → Q none zE D))))) : Sg g M_Mo_reduce Q 34 [vR 708, vI x1] [] D := by
  unfold Sg
  refine q_aload_n d_Mo_reduce_34 rfl ?_
  refine p_getR (k := 2) (b := 710) zc_Mo l_Mo_13 fr_Mo_sizes d_Mo_reduce_35 zk_708 rfl ?_
  refine q_sipush d_Mo_reduce_38 ks_248 ?_
  refine p_iald d_Mo_reduce_41 zk_710 (by decide) ?_
  refine q_iconst d_Mo_reduce_42 (by decide) ?_
  refine q_icmp_ne (tgt := 59) d_Mo_reduce_43 (by decide) (fun c1 => ?_) (fun c1 => ?_)
  · have h := h.1 (c1)
    exact h
  · have h := h.2 (c1)
    refine q_aload_n d_Mo_reduce_46 rfl ?_
    refine p_getR (k := 1) (b := 709) zc_Mo l_Mo_7 fr_Mo_cells d_Mo_reduce_47 zk_708 rfl ?_
    refine q_sipush d_Mo_reduce_50 ks_24800 ?_
    refine p_iald d_Mo_reduce_53 zk_709 (by decide) ?_
    refine q_iconst d_Mo_reduce_54 (by decide) ?_
    refine q_icmp_ne (tgt := 59) d_Mo_reduce_55 (by decide) (fun c2 => ?_) (fun c2 => ?_)
    · have h := h.1 (c2)
      exact h
    · have h := h.2 (c2)
      exact q_vret d_Mo_reduce_58 rfl ⟨Nat.le_refl _, Nat.le_refl _⟩ h
theorem s_Mo_reduce_21 {z0 : VV} {z1 : VV}  (h : Q none zE D) : Sg g M_Mo_reduce Q 21 [z0, z1] [] D := by
  unfold Sg
  refine q_mask [true, true] (L' := [vU, vU]) rfl ?_
  exact q_vret d_Mo_reduce_21 rfl ⟨Nat.le_refl _, Nat.le_refl _⟩ h
theorem s_Mo_reduce_59 {x1 : Int}  (h : (R32 (2 * x1)) ∧ CV g M_Mo_divide [vR 708, vI (2 * x1)] D (fun D' => Sg g M_Mo_reduce Q 66 [vR 708, vI x1] [] D')) : Sg g M_Mo_reduce Q 59 [vR 708, vI x1] [] D := by
  unfold Sg
  obtain ⟨o1, h⟩ := h
  refine q_aload_n d_Mo_reduce_59 rfl ?_
  refine q_iconst d_Mo_reduce_60 (by decide) ?_
  refine q_iload_n d_Mo_reduce_61 rfl ?_
  refine q_imul d_Mo_reduce_62 o1 ?_
  refine p_callV (as := [vI (2 * x1)]) (st := []) (a := 708) mc_Mo_divide mv_Mo_divide l_Mo_134 zc_Mo rfl d_Mo_reduce_63 rfl rfl rfl zk_708 (CV.to ?_)
  exact h
theorem s_Mo_reduce_66 {x1 : Int}  (h : (R32 (2 * x1) ∧ R32 ((2 * x1) + 1)) ∧ CV g M_Mo_divide [vR 708, vI ((2 * x1) + 1)] D (fun D' => Sg g M_Mo_reduce Q 75 [vR 708, vI x1] [] D')) : Sg g M_Mo_reduce Q 66 [vR 708, vI x1] [] D := by
  unfold Sg
  obtain ⟨⟨o1, o2⟩, h⟩ := h
  refine q_aload_n d_Mo_reduce_66 rfl ?_
  refine q_iconst d_Mo_reduce_67 (by decide) ?_
  refine q_iload_n d_Mo_reduce_68 rfl ?_
  refine q_imul d_Mo_reduce_69 o1 ?_
  refine q_iconst d_Mo_reduce_70 (by decide) ?_
  refine q_iadd d_Mo_reduce_71 o2 ?_
  refine p_callV (as := [vI ((2 * x1) + 1)]) (st := []) (a := 708) mc_Mo_divide mv_Mo_divide l_Mo_134 zc_Mo rfl d_Mo_reduce_72 rfl rfl rfl zk_708 (CV.to ?_)
  exact h
theorem s_Mo_reduce_75 {z0 : VV} {z1 : VV}  (h : Q none zE D) : Sg g M_Mo_reduce Q 75 [z0, z1] [] D := by
  unfold Sg
  refine q_mask [true, true] (L' := [vU, vU]) rfl ?_
  exact q_vret d_Mo_reduce_75 rfl ⟨Nat.le_refl _, Nat.le_refl _⟩ h
theorem s_Mo_tell_0 {x1 : Int} {x2 : Int} {x4 : Int}  (h : (R32 (2 * x1)) ∧ CV g M_Mo_set [vR 708, vI (2 * x1), vL x2] D (fun D' => Sg g M_Mo_tell Q 8 [vR 708, vI x1, vL x2, vU, vL x4, vU] [] D')) : Sg g M_Mo_tell Q 0 [vR 708, vI x1, vL x2, vU, vL x4, vU] [] D := by
  unfold Sg
  obtain ⟨o1, h⟩ := h
  refine q_aload_n d_Mo_tell_0 rfl ?_
  refine q_iconst d_Mo_tell_1 (by decide) ?_
  refine q_iload_n d_Mo_tell_2 rfl ?_
  refine q_imul d_Mo_tell_3 o1 ?_
  refine q_lload_n d_Mo_tell_4 rfl ?_
  refine p_callV (as := [vI (2 * x1), vL x2]) (st := []) (a := 708) mc_Mo_set mv_Mo_set l_Mo_127 zc_Mo rfl d_Mo_tell_5 rfl rfl rfl zk_708 (CV.to ?_)
  exact h
theorem s_Mo_tell_8 {x1 : Int} {z2 : VV} {z3 : VV} {x4 : Int}  (h : (R32 (2 * x1) ∧ R32 ((2 * x1) + 1)) ∧ CV g M_Mo_set [vR 708, vI ((2 * x1) + 1), vL x4] D (fun D' => Sg g M_Mo_tell Q 19 [vR 708, vI x1, vU, vU, vL x4, vU] [] D')) : Sg g M_Mo_tell Q 8 [vR 708, vI x1, z2, z3, vL x4, vU] [] D := by
  unfold Sg
  refine q_mask [false, false, true, true, false, false] (L' := [vR 708, vI x1, vU, vU, vL x4, vU]) rfl ?_
  obtain ⟨⟨o1, o2⟩, h⟩ := h
  refine q_aload_n d_Mo_tell_8 rfl ?_
  refine q_iconst d_Mo_tell_9 (by decide) ?_
  refine q_iload_n d_Mo_tell_10 rfl ?_
  refine q_imul d_Mo_tell_11 o1 ?_
  refine q_iconst d_Mo_tell_12 (by decide) ?_
  refine q_iadd d_Mo_tell_13 o2 ?_
  refine q_lload d_Mo_tell_14 rfl ?_
  refine p_callV (as := [vI ((2 * x1) + 1), vL x4]) (st := []) (a := 708) mc_Mo_set mv_Mo_set l_Mo_127 zc_Mo rfl d_Mo_tell_16 rfl rfl rfl zk_708 (CV.to ?_)
  exact h
theorem s_Mo_tell_19 {x1 : Int} {z2 : VV} {z3 : VV} {z4 : VV} {z5 : VV}  (h : CV g M_Mo_reduce [vR 708, vI x1] D (fun D' => Sg g M_Mo_tell Q 24 [vR 708, vI x1, vU, vU, vU, vU] [] D')) : Sg g M_Mo_tell Q 19 [vR 708, vI x1, z2, z3, z4, z5] [] D := by
  unfold Sg
  refine q_mask [false, false, true, true, true, true] (L' := [vR 708, vI x1, vU, vU, vU, vU]) rfl ?_
  refine q_aload_n d_Mo_tell_19 rfl ?_
  refine q_iload_n d_Mo_tell_20 rfl ?_
  refine p_callV (as := [vI x1]) (st := []) (a := 708) mc_Mo_reduce mv_Mo_reduce l_Mo_137 zc_Mo rfl d_Mo_tell_21 rfl rfl rfl zk_708 (CV.to ?_)
  exact h
theorem s_Mo_tell_24 {z0 : VV} {z1 : VV} {z2 : VV} {z3 : VV} {z4 : VV} {z5 : VV}  (h : Q none zE D) : Sg g M_Mo_tell Q 24 [z0, z1, z2, z3, z4, z5] [] D := by
  unfold Sg
  refine q_mask [true, true, true, true, true, true] (L' := [vU, vU, vU, vU, vU, vU]) rfl ?_
  exact q_vret d_Mo_tell_24 rfl ⟨Nat.le_refl _, Nat.le_refl _⟩ h
theorem s_Mo_sumUp_0   (h : CV g M_Mo_multiply [vR 708, vI 224, vI 223, vI 244] D (fun D' => Sg g M_Mo_sumUp Q 13 [vR 708] [] D')) : Sg g M_Mo_sumUp Q 0 [vR 708] [] D := by
  unfold Sg
  refine q_aload_n d_Mo_sumUp_0 rfl ?_
  refine q_sipush d_Mo_sumUp_1 ks_224 ?_
  refine q_sipush d_Mo_sumUp_4 ks_223 ?_
  refine q_sipush d_Mo_sumUp_7 ks_244 ?_
  refine p_callV (as := [vI 224, vI 223, vI 244]) (st := []) (a := 708) mc_Mo_multiply mv_Mo_multiply l_Mo_140 zc_Mo rfl d_Mo_sumUp_10 rfl rfl rfl zk_708 (CV.to ?_)
  exact h
theorem s_Mo_sumUp_13   (h : CV g M_Mo_multiply [vR 708, vI 222, vI 225, vI 245] D (fun D' => Sg g M_Mo_sumUp Q 26 [vR 708] [] D')) : Sg g M_Mo_sumUp Q 13 [vR 708] [] D := by
  unfold Sg
  refine q_aload_n d_Mo_sumUp_13 rfl ?_
  refine q_sipush d_Mo_sumUp_14 ks_222 ?_
  refine q_sipush d_Mo_sumUp_17 ks_225 ?_
  refine q_sipush d_Mo_sumUp_20 ks_245 ?_
  refine p_callV (as := [vI 222, vI 225, vI 245]) (st := []) (a := 708) mc_Mo_multiply mv_Mo_multiply l_Mo_140 zc_Mo rfl d_Mo_sumUp_23 rfl rfl rfl zk_708 (CV.to ?_)
  exact h
theorem s_Mo_sumUp_26   (h : CV g M_Mo_add [vR 708, vI 244, vI 245, vI 244] D (fun D' => Sg g M_Mo_sumUp Q 39 [vR 708] [] D')) : Sg g M_Mo_sumUp Q 26 [vR 708] [] D := by
  unfold Sg
  refine q_aload_n d_Mo_sumUp_26 rfl ?_
  refine q_sipush d_Mo_sumUp_27 ks_244 ?_
  refine q_sipush d_Mo_sumUp_30 ks_245 ?_
  refine q_sipush d_Mo_sumUp_33 ks_244 ?_
  refine p_callV (as := [vI 244, vI 245, vI 244]) (st := []) (a := 708) mc_Mo_add mv_Mo_add l_Mo_143 zc_Mo rfl d_Mo_sumUp_36 rfl rfl rfl zk_708 (CV.to ?_)
  exact h
theorem s_Mo_sumUp_39   (h : CV g M_Mo_multiply [vR 708, vI 225, vI 223, vI 245] D (fun D' => Sg g M_Mo_sumUp Q 52 [vR 708] [] D')) : Sg g M_Mo_sumUp Q 39 [vR 708] [] D := by
  unfold Sg
  refine q_aload_n d_Mo_sumUp_39 rfl ?_
  refine q_sipush d_Mo_sumUp_40 ks_225 ?_
  refine q_sipush d_Mo_sumUp_43 ks_223 ?_
  refine q_sipush d_Mo_sumUp_46 ks_245 ?_
  refine p_callV (as := [vI 225, vI 223, vI 245]) (st := []) (a := 708) mc_Mo_multiply mv_Mo_multiply l_Mo_140 zc_Mo rfl d_Mo_sumUp_49 rfl rfl rfl zk_708 (CV.to ?_)
  exact h
theorem s_Mo_sumUp_52   (h : CV g M_Mo_copy [vR 708, vI 244, vI 224] D (fun D' => Sg g M_Mo_sumUp Q 62 [vR 708] [] D')) : Sg g M_Mo_sumUp Q 52 [vR 708] [] D := by
  unfold Sg
  refine q_aload_n d_Mo_sumUp_52 rfl ?_
  refine q_sipush d_Mo_sumUp_53 ks_244 ?_
  refine q_sipush d_Mo_sumUp_56 ks_224 ?_
  refine p_callV (as := [vI 244, vI 224]) (st := []) (a := 708) mc_Mo_copy mv_Mo_copy l_Mo_106 zc_Mo rfl d_Mo_sumUp_59 rfl rfl rfl zk_708 (CV.to ?_)
  exact h
theorem s_Mo_sumUp_62   (h : CV g M_Mo_copy [vR 708, vI 245, vI 225] D (fun D' => Sg g M_Mo_sumUp Q 72 [vR 708] [] D')) : Sg g M_Mo_sumUp Q 62 [vR 708] [] D := by
  unfold Sg
  refine q_aload_n d_Mo_sumUp_62 rfl ?_
  refine q_sipush d_Mo_sumUp_63 ks_245 ?_
  refine q_sipush d_Mo_sumUp_66 ks_225 ?_
  refine p_callV (as := [vI 245, vI 225]) (st := []) (a := 708) mc_Mo_copy mv_Mo_copy l_Mo_106 zc_Mo rfl d_Mo_sumUp_69 rfl rfl rfl zk_708 (CV.to ?_)
  exact h
theorem s_Mo_sumUp_72   (h : CV g M_Mo_reduce [vR 708, vI 112] D (fun D' => Sg g M_Mo_sumUp Q 78 [vR 708] [] D')) : Sg g M_Mo_sumUp Q 72 [vR 708] [] D := by
  unfold Sg
  refine q_aload_n d_Mo_sumUp_72 rfl ?_
  refine q_bipush d_Mo_sumUp_73 kb_112 ?_
  refine p_callV (as := [vI 112]) (st := []) (a := 708) mc_Mo_reduce mv_Mo_reduce l_Mo_137 zc_Mo rfl d_Mo_sumUp_75 rfl rfl rfl zk_708 (CV.to ?_)
  exact h
theorem s_Mo_sumUp_78 {z0 : VV}  (h : Q none zE D) : Sg g M_Mo_sumUp Q 78 [z0] [] D := by
  unfold Sg
  refine q_mask [true] (L' := [vU]) rfl ?_
  exact q_vret d_Mo_sumUp_78 rfl ⟨Nat.le_refl _, Nat.le_refl _⟩ h
theorem s_Mo_sumCube_0 {x1 : Int} {x2 : Int}  (h : (R32 (2 * x1) ∧ (0 ≤ 2 * x1 ∧ 2 * x1 < 260)) ∧ ((¬ (D 710 (2 * x1)) = 0 → (R32 (2 * x1) ∧ R32 (2 * x1)) ∧ CV g M_Mo_multiply [vR 708, vI (2 * x1), vI (2 * x1), vI 244] D (fun D' => Sg g M_Mo_sumCube Q 25 [vR 708, vI x1, vI x2] [] D')) ∧ ((D 710 (2 * x1)) = 0 → Q none zE D))) : Sg g M_Mo_sumCube Q 0 [vR 708, vI x1, vI x2] [] D := by
  unfold Sg
  obtain ⟨⟨o1, o2⟩, h⟩ := h
  refine q_aload_n d_Mo_sumCube_0 rfl ?_
  refine p_getR (k := 2) (b := 710) zc_Mo l_Mo_13 fr_Mo_sizes d_Mo_sumCube_1 zk_708 rfl ?_
  refine q_iconst d_Mo_sumCube_4 (by decide) ?_
  refine q_iload_n d_Mo_sumCube_5 rfl ?_
  refine q_imul d_Mo_sumCube_6 o1 ?_
  refine p_iald d_Mo_sumCube_7 zk_710 o2 ?_
  refine q_if_ne (tgt := 12) d_Mo_sumCube_8 (by decide) (fun c3 => ?_) (fun c3 => ?_)
  · have h := h.1 (c3)
    obtain ⟨⟨o4, o5⟩, h⟩ := h
    refine q_aload_n d_Mo_sumCube_12 rfl ?_
    refine q_iconst d_Mo_sumCube_13 (by decide) ?_
    refine q_iload_n d_Mo_sumCube_14 rfl ?_
    refine q_imul d_Mo_sumCube_15 o4 ?_
    refine q_iconst d_Mo_sumCube_16 (by decide) ?_
    refine q_iload_n d_Mo_sumCube_17 rfl ?_
    refine q_imul d_Mo_sumCube_18 o5 ?_
    refine q_sipush d_Mo_sumCube_19 ks_244 ?_
    refine p_callV (as := [vI (2 * x1), vI (2 * x1), vI 244]) (st := []) (a := 708) mc_Mo_multiply mv_Mo_multiply l_Mo_140 zc_Mo rfl d_Mo_sumCube_22 rfl rfl rfl zk_708 (CV.to ?_)
    exact h
  · have h := h.2 (c3)
    exact q_vret d_Mo_sumCube_11 rfl ⟨Nat.le_refl _, Nat.le_refl _⟩ h
theorem s_Mo_sumCube_25 {x1 : Int} {x2 : Int}  (h : (R32 (2 * x1)) ∧ CV g M_Mo_multiply [vR 708, vI 244, vI (2 * x1), vI 222] D (fun D' => Sg g M_Mo_sumCube Q 38 [vR 708, vI x1, vI x2] [] D')) : Sg g M_Mo_sumCube Q 25 [vR 708, vI x1, vI x2] [] D := by
  unfold Sg
  obtain ⟨o1, h⟩ := h
  refine q_aload_n d_Mo_sumCube_25 rfl ?_
  refine q_sipush d_Mo_sumCube_26 ks_244 ?_
  refine q_iconst d_Mo_sumCube_29 (by decide) ?_
  refine q_iload_n d_Mo_sumCube_30 rfl ?_
  refine q_imul d_Mo_sumCube_31 o1 ?_
  refine q_sipush d_Mo_sumCube_32 ks_222 ?_
  refine p_callV (as := [vI 244, vI (2 * x1), vI 222]) (st := []) (a := 708) mc_Mo_multiply mv_Mo_multiply l_Mo_140 zc_Mo rfl d_Mo_sumCube_35 rfl rfl rfl zk_708 (CV.to ?_)
  exact h
theorem s_Mo_sumCube_38 {x1 : Int} {x2 : Int}  (h : CV g M_Mo_multiplyBy [vR 708, vI 222, vI x2] D (fun D' => Sg g M_Mo_sumCube Q 46 [vR 708, vI x1, vI x2] [] D')) : Sg g M_Mo_sumCube Q 38 [vR 708, vI x1, vI x2] [] D := by
  unfold Sg
  refine q_aload_n d_Mo_sumCube_38 rfl ?_
  refine q_sipush d_Mo_sumCube_39 ks_222 ?_
  refine q_iload_n d_Mo_sumCube_42 rfl ?_
  refine p_callV (as := [vI 222, vI x2]) (st := []) (a := 708) mc_Mo_multiplyBy mv_Mo_multiplyBy l_Mo_124 zc_Mo rfl d_Mo_sumCube_43 rfl rfl rfl zk_708 (CV.to ?_)
  exact h
theorem s_Mo_sumCube_46 {x1 : Int} {z2 : VV}  (h : (R32 (2 * x1) ∧ R32 ((2 * x1) + 1) ∧ R32 (2 * x1) ∧ R32 ((2 * x1) + 1)) ∧ CV g M_Mo_multiply [vR 708, vI ((2 * x1) + 1), vI ((2 * x1) + 1), vI 244] D (fun D' => Sg g M_Mo_sumCube Q 63 [vR 708, vI x1, vU] [] D')) : Sg g M_Mo_sumCube Q 46 [vR 708, vI x1, z2] [] D := by
  unfold Sg
  refine q_mask [false, false, true] (L' := [vR 708, vI x1, vU]) rfl ?_
  obtain ⟨⟨o1, o2, o3, o4⟩, h⟩ := h
  refine q_aload_n d_Mo_sumCube_46 rfl ?_
  refine q_iconst d_Mo_sumCube_47 (by decide) ?_
  refine q_iload_n d_Mo_sumCube_48 rfl ?_
  refine q_imul d_Mo_sumCube_49 o1 ?_
  refine q_iconst d_Mo_sumCube_50 (by decide) ?_
  refine q_iadd d_Mo_sumCube_51 o2 ?_
  refine q_iconst d_Mo_sumCube_52 (by decide) ?_
  refine q_iload_n d_Mo_sumCube_53 rfl ?_
  refine q_imul d_Mo_sumCube_54 o3 ?_
  refine q_iconst d_Mo_sumCube_55 (by decide) ?_
  refine q_iadd d_Mo_sumCube_56 o4 ?_
  refine q_sipush d_Mo_sumCube_57 ks_244 ?_
  refine p_callV (as := [vI ((2 * x1) + 1), vI ((2 * x1) + 1), vI 244]) (st := []) (a := 708) mc_Mo_multiply mv_Mo_multiply l_Mo_140 zc_Mo rfl d_Mo_sumCube_60 rfl rfl rfl zk_708 (CV.to ?_)
  exact h
theorem s_Mo_sumCube_63 {x1 : Int} {z2 : VV}  (h : (R32 (2 * x1) ∧ R32 ((2 * x1) + 1)) ∧ CV g M_Mo_multiply [vR 708, vI 244, vI ((2 * x1) + 1), vI 223] D (fun D' => Sg g M_Mo_sumCube Q 78 [vR 708, vI x1, vU] [] D')) : Sg g M_Mo_sumCube Q 63 [vR 708, vI x1, z2] [] D := by
  unfold Sg
  refine q_mask [false, false, true] (L' := [vR 708, vI x1, vU]) rfl ?_
  obtain ⟨⟨o1, o2⟩, h⟩ := h
  refine q_aload_n d_Mo_sumCube_63 rfl ?_
  refine q_sipush d_Mo_sumCube_64 ks_244 ?_
  refine q_iconst d_Mo_sumCube_67 (by decide) ?_
  refine q_iload_n d_Mo_sumCube_68 rfl ?_
  refine q_imul d_Mo_sumCube_69 o1 ?_
  refine q_iconst d_Mo_sumCube_70 (by decide) ?_
  refine q_iadd d_Mo_sumCube_71 o2 ?_
  refine q_sipush d_Mo_sumCube_72 ks_223 ?_
  refine p_callV (as := [vI 244, vI ((2 * x1) + 1), vI 223]) (st := []) (a := 708) mc_Mo_multiply mv_Mo_multiply l_Mo_140 zc_Mo rfl d_Mo_sumCube_75 rfl rfl rfl zk_708 (CV.to ?_)
  exact h
theorem s_Mo_sumCube_78 {z1 : VV} {z2 : VV}  (h : CV g M_Mo_reduce [vR 708, vI 111] D (fun D' => Sg g M_Mo_sumCube Q 84 [vR 708, vU, vU] [] D')) : Sg g M_Mo_sumCube Q 78 [vR 708, z1, z2] [] D := by
  unfold Sg
  refine q_mask [false, true, true] (L' := [vR 708, vU, vU]) rfl ?_
  refine q_aload_n d_Mo_sumCube_78 rfl ?_
  refine q_bipush d_Mo_sumCube_79 kb_111 ?_
  refine p_callV (as := [vI 111]) (st := []) (a := 708) mc_Mo_reduce mv_Mo_reduce l_Mo_137 zc_Mo rfl d_Mo_sumCube_81 rfl rfl rfl zk_708 (CV.to ?_)
  exact h
theorem s_Mo_sumCube_84 {z1 : VV} {z2 : VV}  (h : CV g M_Mo_sumUp [vR 708] D (fun D' => Sg g M_Mo_sumCube Q 88 [vR 708, vU, vU] [] D')) : Sg g M_Mo_sumCube Q 84 [vR 708, z1, z2] [] D := by
  unfold Sg
  refine q_mask [false, true, true] (L' := [vR 708, vU, vU]) rfl ?_
  refine q_aload_n d_Mo_sumCube_84 rfl ?_
  refine p_callV (as := []) (st := []) (a := 708) mc_Mo_sumUp mv_Mo_sumUp l_Mo_146 zc_Mo rfl d_Mo_sumCube_85 rfl rfl rfl zk_708 (CV.to ?_)
  exact h
theorem s_Mo_sumCube_88 {z0 : VV} {z1 : VV} {z2 : VV}  (h : Q none zE D) : Sg g M_Mo_sumCube Q 88 [z0, z1, z2] [] D := by
  unfold Sg
  refine q_mask [true, true, true] (L' := [vU, vU, vU]) rfl ?_
  exact q_vret d_Mo_sumCube_88 rfl ⟨Nat.le_refl _, Nat.le_refl _⟩ h
theorem s_Mo_keep_0 {x1 : Int} {x2 : Int}  (h : (R32 (2 * x1) ∧ R32 (2 * x2)) ∧ CV g M_Mo_copy [vR 708, vI (2 * x1), vI (2 * x2)] D (fun D' => Sg g M_Mo_keep Q 10 [vR 708, vI x1, vI x2] [] D')) : Sg g M_Mo_keep Q 0 [vR 708, vI x1, vI x2] [] D := by
  unfold Sg
  obtain ⟨⟨o1, o2⟩, h⟩ := h
  refine q_aload_n d_Mo_keep_0 rfl ?_
  refine q_iconst d_Mo_keep_1 (by decide) ?_
  refine q_iload_n d_Mo_keep_2 rfl ?_
  refine q_imul d_Mo_keep_3 o1 ?_
  refine q_iconst d_Mo_keep_4 (by decide) ?_
  refine q_iload_n d_Mo_keep_5 rfl ?_
  refine q_imul d_Mo_keep_6 o2 ?_
  refine p_callV (as := [vI (2 * x1), vI (2 * x2)]) (st := []) (a := 708) mc_Mo_copy mv_Mo_copy l_Mo_106 zc_Mo rfl d_Mo_keep_7 rfl rfl rfl zk_708 (CV.to ?_)
  exact h
theorem s_Mo_keep_10 {x1 : Int} {x2 : Int}  (h : (R32 (2 * x1) ∧ R32 ((2 * x1) + 1) ∧ R32 (2 * x2) ∧ R32 ((2 * x2) + 1)) ∧ CV g M_Mo_copy [vR 708, vI ((2 * x1) + 1), vI ((2 * x2) + 1)] D (fun D' => Sg g M_Mo_keep Q 24 [vR 708, vI x1, vI x2] [] D')) : Sg g M_Mo_keep Q 10 [vR 708, vI x1, vI x2] [] D := by
  unfold Sg
  obtain ⟨⟨o1, o2, o3, o4⟩, h⟩ := h
  refine q_aload_n d_Mo_keep_10 rfl ?_
  refine q_iconst d_Mo_keep_11 (by decide) ?_
  refine q_iload_n d_Mo_keep_12 rfl ?_
  refine q_imul d_Mo_keep_13 o1 ?_
  refine q_iconst d_Mo_keep_14 (by decide) ?_
  refine q_iadd d_Mo_keep_15 o2 ?_
  refine q_iconst d_Mo_keep_16 (by decide) ?_
  refine q_iload_n d_Mo_keep_17 rfl ?_
  refine q_imul d_Mo_keep_18 o3 ?_
  refine q_iconst d_Mo_keep_19 (by decide) ?_
  refine q_iadd d_Mo_keep_20 o4 ?_
  refine p_callV (as := [vI ((2 * x1) + 1), vI ((2 * x2) + 1)]) (st := []) (a := 708) mc_Mo_copy mv_Mo_copy l_Mo_106 zc_Mo rfl d_Mo_keep_21 rfl rfl rfl zk_708 (CV.to ?_)
  exact h
theorem s_Mo_keep_24 {z0 : VV} {z1 : VV} {z2 : VV}  (h : Q none zE D) : Sg g M_Mo_keep Q 24 [z0, z1, z2] [] D := by
  unfold Sg
  refine q_mask [true, true, true] (L' := [vU, vU, vU]) rfl ?_
  exact q_vret d_Mo_keep_24 rfl ⟨Nat.le_refl _, Nat.le_refl _⟩ h
theorem s_Mo_isSame_0 {x1 : Int} {x2 : Int}  (h : (R32 (2 * x1) ∧ R32 (2 * x2)) ∧ CI g M_Mo_order [vR 708, vI (2 * x1), vI (2 * x2)] D (fun v3 D' => Sg g M_Mo_isSame Q 10 [vR 708, vI x1, vI x2] [vI v3] D')) : Sg g M_Mo_isSame Q 0 [vR 708, vI x1, vI x2] [] D := by
  unfold Sg
  obtain ⟨⟨o1, o2⟩, h⟩ := h
  refine q_aload_n d_Mo_isSame_0 rfl ?_
  refine q_iconst d_Mo_isSame_1 (by decide) ?_
  refine q_iload_n d_Mo_isSame_2 rfl ?_
  refine q_imul d_Mo_isSame_3 o1 ?_
  refine q_iconst d_Mo_isSame_4 (by decide) ?_
  refine q_iload_n d_Mo_isSame_5 rfl ?_
  refine q_imul d_Mo_isSame_6 o2 ?_
  refine p_callV (as := [vI (2 * x1), vI (2 * x2)]) (st := []) (a := 708) mc_Mo_order mv_Mo_order l_Mo_117 zc_Mo rfl d_Mo_isSame_7 rfl rfl rfl zk_708 (CI.to ?_)
  exact h
theorem s_Mo_isSame_10 {x1 : Int} {x2 : Int} {y0 : Int}  (h : ((¬ y0 = 0 → Q (some (vI 0)) zE D) ∧ (y0 = 0 → (R32 (2 * x1) ∧ R32 ((2 * x1) + 1) ∧ R32 (2 * x2) ∧ R32 ((2 * x2) + 1)) ∧ CI g M_Mo_order [vR 708, vI ((2 * x1) + 1), vI ((2 * x2) + 1)] D (fun v6 D' => Sg g M_Mo_isSame Q 27 [vR 708, vI x1, vI x2] [vI v6] D')))) : Sg g M_Mo_isSame Q 10 [vR 708, vI x1, vI x2] [vI y0] D := by
  unfold Sg
  refine q_if_ne (tgt := 34) d_Mo_isSame_10 (by decide) (fun c1 => ?_) (fun c1 => ?_)
  · have h := h.1 (c1)
    refine q_iconst d_Mo_isSame_34 (by decide) ?_
    exact q_iret d_Mo_isSame_35 (Or.inr ⟨rfl, by decide⟩) ⟨Nat.le_refl _, Nat.le_refl _⟩ h
  · have h := h.2 (c1)
    obtain ⟨⟨o2, o3, o4, o5⟩, h⟩ := h
    refine q_aload_n d_Mo_isSame_13 rfl ?_
    refine q_iconst d_Mo_isSame_14 (by decide) ?_
    refine q_iload_n d_Mo_isSame_15 rfl ?_
    refine q_imul d_Mo_isSame_16 o2 ?_
    refine q_iconst d_Mo_isSame_17 (by decide) ?_
    refine q_iadd d_Mo_isSame_18 o3 ?_
    refine q_iconst d_Mo_isSame_19 (by decide) ?_
    refine q_iload_n d_Mo_isSame_20 rfl ?_
    refine q_imul d_Mo_isSame_21 o4 ?_
    refine q_iconst d_Mo_isSame_22 (by decide) ?_
    refine q_iadd d_Mo_isSame_23 o5 ?_
    refine p_callV (as := [vI ((2 * x1) + 1), vI ((2 * x2) + 1)]) (st := []) (a := 708) mc_Mo_order mv_Mo_order l_Mo_117 zc_Mo rfl d_Mo_isSame_24 rfl rfl rfl zk_708 (CI.to ?_)
    exact h
theorem s_Mo_isSame_27 {z0 : VV} {z1 : VV} {z2 : VV} {y0 : Int}  (h : ((¬ y0 = 0 → Q (some (vI 0)) zE D) ∧ (y0 = 0 → Q (some (vI 1)) zE D))) : Sg g M_Mo_isSame Q 27 [z0, z1, z2] [vI y0] D := by
  unfold Sg
  refine q_mask [true, true, true] (L' := [vU, vU, vU]) rfl ?_
  refine q_if_ne (tgt := 34) d_Mo_isSame_27 (by decide) (fun c1 => ?_) (fun c1 => ?_)
  · have h := h.1 (c1)
    refine q_iconst d_Mo_isSame_34 (by decide) ?_
    exact q_iret d_Mo_isSame_35 (Or.inr ⟨rfl, by decide⟩) ⟨Nat.le_refl _, Nat.le_refl _⟩ h
  · have h := h.2 (c1)
    refine q_iconst d_Mo_isSame_30 (by decide) ?_
    refine q_goto (tgt := 35) d_Mo_isSame_31 (by decide) ?_
    exact q_iret d_Mo_isSame_35 (Or.inr ⟨rfl, by decide⟩) ⟨Nat.le_refl _, Nat.le_refl _⟩ h
theorem s_Mo_in_0 {x0 : Int} {x1 : Int} {x2 : Int}  (h : ((x0 < x1 → Q (some (vI 0)) zE D) ∧ (¬ x0 < x1 → ((x2 < x0 → Q (some (vI 0)) zE D) ∧ (¬ x2 < x0 → Q (some (vI 1)) zE D))))) : Sg g M_Mo_in Q 0 [vI x0, vI x1, vI x2] [] D := by
  unfold Sg
  refine q_iload_n d_Mo_in_0 rfl ?_
  refine q_iload_n d_Mo_in_1 rfl ?_
  refine q_icmp_lt (tgt := 14) d_Mo_in_2 (by decide) (fun c1 => ?_) (fun c1 => ?_)
  · have h := h.1 (c1)
    refine q_iconst d_Mo_in_14 (by decide) ?_
    exact q_iret d_Mo_in_15 (Or.inr ⟨rfl, by decide⟩) ⟨Nat.le_refl _, Nat.le_refl _⟩ h
  · have h := h.2 (c1)
    refine q_iload_n d_Mo_in_5 rfl ?_
    refine q_iload_n d_Mo_in_6 rfl ?_
    refine q_icmp_gt (tgt := 14) d_Mo_in_7 (by decide) (fun c2 => ?_) (fun c2 => ?_)
    · have h := h.1 (c2)
      refine q_iconst d_Mo_in_14 (by decide) ?_
      exact q_iret d_Mo_in_15 (Or.inr ⟨rfl, by decide⟩) ⟨Nat.le_refl _, Nat.le_refl _⟩ h
    · have h := h.2 (c2)
      refine q_iconst d_Mo_in_10 (by decide) ?_
      refine q_goto (tgt := 15) d_Mo_in_11 (by decide) ?_
      exact q_iret d_Mo_in_15 (Or.inr ⟨rfl, by decide⟩) ⟨Nat.le_refl _, Nat.le_refl _⟩ h
theorem s_Mo_thrown_0   (h : Q (some (vI (D 708 0))) zE D) : Sg g M_Mo_thrown Q 0 [vR 708] [] D := by
  unfold Sg
  refine q_aload_n d_Mo_thrown_0 rfl ?_
  refine p_getI (k := 0) zc_Mo l_Mo_91 fi_Mo_thrown d_Mo_thrown_1 zk_708 ?_
  exact q_iret d_Mo_thrown_4 (Or.inl rfl) ⟨Nat.le_refl _, Nat.le_refl _⟩ h
end SEG
