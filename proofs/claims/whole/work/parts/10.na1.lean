/-! printed by wip/whole/tools/seg.py: Na_isZero, Na_isOne, Na_fitsLong, Na_asLong, Na_setSmall, Na_copyFrom, Na_order, Na_push, Na_trim, Na_add, Na_takeOff, Na_times, Na_divideSmall, Na_freeBits, Na_shiftUp, Na_shiftDown -/
theorem kb_30 : (Int8.ofInt 30).toInt32 = Int32.ofInt 30 ∧ R32 30 := ⟨by decide +kernel, by decide⟩
theorem kb_31 : (Int8.ofInt 31).toInt32 = Int32.ofInt 31 ∧ R32 31 := ⟨by decide +kernel, by decide⟩
theorem kb_32 : (Int8.ofInt 32).toInt32 = Int32.ofInt 32 ∧ R32 32 := ⟨by decide +kernel, by decide⟩
theorem fi_Na_size : 1 < 2 ∧ (zft 3 1).1 ≠ 2 ∧ ((1 : Nat) : Int) = 1 := ⟨by decide, by decide +kernel, rfl⟩
theorem fr_Na_digits : 0 < 2 ∧ zft 3 0 = (2, 1) := ⟨by decide, by decide +kernel⟩
theorem fp_Na_size : 1 < 2 ∧ (zft 3 1).1 ≠ 2 ∧ ((1 : Nat) : Int) = 1 ∧ (F_Na 1).2.2.2 = false := ⟨by decide, by decide +kernel, rfl, rfl⟩
theorem d_Na_isZero_0 : decode prog_6_method_2_code 0 = .ok (.aload_n 0, 1) := by decide +kernel
theorem d_Na_isZero_1 : decode prog_6_method_2_code 1 = .ok (.getfield 15, 3) := by decide +kernel
theorem d_Na_isZero_4 : decode prog_6_method_2_code 4 = .ok (.ifCond .ne 7, 3) := by decide +kernel
theorem d_Na_isZero_7 : decode prog_6_method_2_code 7 = .ok (.iconst 1, 1) := by decide +kernel
theorem d_Na_isZero_8 : decode prog_6_method_2_code 8 = .ok (.goto 4, 3) := by decide +kernel
theorem d_Na_isZero_11 : decode prog_6_method_2_code 11 = .ok (.iconst 0, 1) := by decide +kernel
theorem d_Na_isZero_12 : decode prog_6_method_2_code 12 = .ok (.ireturn, 1) := by decide +kernel
theorem d_Na_isOne_0 : decode prog_6_method_3_code 0 = .ok (.aload_n 0, 1) := by decide +kernel
theorem d_Na_isOne_1 : decode prog_6_method_3_code 1 = .ok (.getfield 15, 3) := by decide +kernel
theorem d_Na_isOne_4 : decode prog_6_method_3_code 4 = .ok (.iconst 1, 1) := by decide +kernel
theorem d_Na_isOne_5 : decode prog_6_method_3_code 5 = .ok (.if_icmp .ne 17, 3) := by decide +kernel
theorem d_Na_isOne_8 : decode prog_6_method_3_code 8 = .ok (.aload_n 0, 1) := by decide +kernel
theorem d_Na_isOne_9 : decode prog_6_method_3_code 9 = .ok (.getfield 9, 3) := by decide +kernel
theorem d_Na_isOne_12 : decode prog_6_method_3_code 12 = .ok (.iconst 0, 1) := by decide +kernel
theorem d_Na_isOne_13 : decode prog_6_method_3_code 13 = .ok (.iaload, 1) := by decide +kernel
theorem d_Na_isOne_14 : decode prog_6_method_3_code 14 = .ok (.iconst 1, 1) := by decide +kernel
theorem d_Na_isOne_15 : decode prog_6_method_3_code 15 = .ok (.if_icmp .ne 7, 3) := by decide +kernel
theorem d_Na_isOne_18 : decode prog_6_method_3_code 18 = .ok (.iconst 1, 1) := by decide +kernel
theorem d_Na_isOne_19 : decode prog_6_method_3_code 19 = .ok (.goto 4, 3) := by decide +kernel
theorem d_Na_isOne_22 : decode prog_6_method_3_code 22 = .ok (.iconst 0, 1) := by decide +kernel
theorem d_Na_isOne_23 : decode prog_6_method_3_code 23 = .ok (.ireturn, 1) := by decide +kernel
theorem d_Na_fitsLong_0 : decode prog_6_method_4_code 0 = .ok (.aload_n 0, 1) := by decide +kernel
theorem d_Na_fitsLong_1 : decode prog_6_method_4_code 1 = .ok (.getfield 15, 3) := by decide +kernel
theorem d_Na_fitsLong_4 : decode prog_6_method_4_code 4 = .ok (.iconst 2, 1) := by decide +kernel
theorem d_Na_fitsLong_5 : decode prog_6_method_4_code 5 = .ok (.if_icmp .gt 7, 3) := by decide +kernel
theorem d_Na_fitsLong_8 : decode prog_6_method_4_code 8 = .ok (.iconst 1, 1) := by decide +kernel
theorem d_Na_fitsLong_9 : decode prog_6_method_4_code 9 = .ok (.goto 4, 3) := by decide +kernel
theorem d_Na_fitsLong_12 : decode prog_6_method_4_code 12 = .ok (.iconst 0, 1) := by decide +kernel
theorem d_Na_fitsLong_13 : decode prog_6_method_4_code 13 = .ok (.ireturn, 1) := by decide +kernel
theorem d_Na_asLong_0 : decode prog_6_method_5_code 0 = .ok (.aload_n 0, 1) := by decide +kernel
theorem d_Na_asLong_1 : decode prog_6_method_5_code 1 = .ok (.getfield 15, 3) := by decide +kernel
theorem d_Na_asLong_4 : decode prog_6_method_5_code 4 = .ok (.ifCond .le 13, 3) := by decide +kernel
theorem d_Na_asLong_7 : decode prog_6_method_5_code 7 = .ok (.aload_n 0, 1) := by decide +kernel
theorem d_Na_asLong_8 : decode prog_6_method_5_code 8 = .ok (.getfield 9, 3) := by decide +kernel
theorem d_Na_asLong_11 : decode prog_6_method_5_code 11 = .ok (.iconst 0, 1) := by decide +kernel
theorem d_Na_asLong_12 : decode prog_6_method_5_code 12 = .ok (.iaload, 1) := by decide +kernel
theorem d_Na_asLong_13 : decode prog_6_method_5_code 13 = .ok (.i2l, 1) := by decide +kernel
theorem d_Na_asLong_14 : decode prog_6_method_5_code 14 = .ok (.goto 4, 3) := by decide +kernel
theorem d_Na_asLong_17 : decode prog_6_method_5_code 17 = .ok (.lconst 0, 1) := by decide +kernel
theorem d_Na_asLong_18 : decode prog_6_method_5_code 18 = .ok (.lstore_n 1, 1) := by decide +kernel
theorem d_Na_asLong_19 : decode prog_6_method_5_code 19 = .ok (.aload_n 0, 1) := by decide +kernel
theorem d_Na_asLong_20 : decode prog_6_method_5_code 20 = .ok (.getfield 15, 3) := by decide +kernel
theorem d_Na_asLong_23 : decode prog_6_method_5_code 23 = .ok (.iconst 1, 1) := by decide +kernel
theorem d_Na_asLong_24 : decode prog_6_method_5_code 24 = .ok (.if_icmp .le 13, 3) := by decide +kernel
theorem d_Na_asLong_27 : decode prog_6_method_5_code 27 = .ok (.aload_n 0, 1) := by decide +kernel
theorem d_Na_asLong_28 : decode prog_6_method_5_code 28 = .ok (.getfield 9, 3) := by decide +kernel
theorem d_Na_asLong_31 : decode prog_6_method_5_code 31 = .ok (.iconst 1, 1) := by decide +kernel
theorem d_Na_asLong_32 : decode prog_6_method_5_code 32 = .ok (.iaload, 1) := by decide +kernel
theorem d_Na_asLong_33 : decode prog_6_method_5_code 33 = .ok (.i2l, 1) := by decide +kernel
theorem d_Na_asLong_34 : decode prog_6_method_5_code 34 = .ok (.goto 4, 3) := by decide +kernel
theorem d_Na_asLong_37 : decode prog_6_method_5_code 37 = .ok (.lconst 0, 1) := by decide +kernel
theorem d_Na_asLong_38 : decode prog_6_method_5_code 38 = .ok (.lstore_n 3, 1) := by decide +kernel
theorem d_Na_asLong_39 : decode prog_6_method_5_code 39 = .ok (.lload_n 3, 1) := by decide +kernel
theorem d_Na_asLong_40 : decode prog_6_method_5_code 40 = .ok (.bipush 31, 2) := by decide +kernel
theorem d_Na_asLong_42 : decode prog_6_method_5_code 42 = .ok (.lshl, 1) := by decide +kernel
theorem d_Na_asLong_43 : decode prog_6_method_5_code 43 = .ok (.lload_n 1, 1) := by decide +kernel
theorem d_Na_asLong_44 : decode prog_6_method_5_code 44 = .ok (.lor, 1) := by decide +kernel
theorem d_Na_asLong_45 : decode prog_6_method_5_code 45 = .ok (.lreturn, 1) := by decide +kernel
theorem d_Na_setSmall_0 : decode prog_6_method_6_code 0 = .ok (.aload_n 0, 1) := by decide +kernel
theorem d_Na_setSmall_1 : decode prog_6_method_6_code 1 = .ok (.iconst 0, 1) := by decide +kernel
theorem d_Na_setSmall_2 : decode prog_6_method_6_code 2 = .ok (.putfield 15, 3) := by decide +kernel
theorem d_Na_setSmall_5 : decode prog_6_method_6_code 5 = .ok (.lload_n 1, 1) := by decide +kernel
theorem d_Na_setSmall_6 : decode prog_6_method_6_code 6 = .ok (.lstore_n 3, 1) := by decide +kernel
theorem d_Na_setSmall_7 : decode prog_6_method_6_code 7 = .ok (.lload_n 3, 1) := by decide +kernel
theorem d_Na_setSmall_8 : decode prog_6_method_6_code 8 = .ok (.lconst 0, 1) := by decide +kernel
theorem d_Na_setSmall_9 : decode prog_6_method_6_code 9 = .ok (.lcmp, 1) := by decide +kernel
theorem d_Na_setSmall_10 : decode prog_6_method_6_code 10 = .ok (.ifCond .le 45, 3) := by decide +kernel
theorem d_Na_setSmall_13 : decode prog_6_method_6_code 13 = .ok (.aload_n 0, 1) := by decide +kernel
theorem d_Na_setSmall_14 : decode prog_6_method_6_code 14 = .ok (.getfield 15, 3) := by decide +kernel
theorem d_Na_setSmall_17 : decode prog_6_method_6_code 17 = .ok (.bipush 32, 2) := by decide +kernel
theorem d_Na_setSmall_19 : decode prog_6_method_6_code 19 = .ok (.if_icmp .ge 36, 3) := by decide +kernel
theorem d_Na_setSmall_22 : decode prog_6_method_6_code 22 = .ok (.aload_n 0, 1) := by decide +kernel
theorem d_Na_setSmall_23 : decode prog_6_method_6_code 23 = .ok (.getfield 9, 3) := by decide +kernel
theorem d_Na_setSmall_26 : decode prog_6_method_6_code 26 = .ok (.aload_n 0, 1) := by decide +kernel
theorem d_Na_setSmall_27 : decode prog_6_method_6_code 27 = .ok (.getfield 15, 3) := by decide +kernel
theorem d_Na_setSmall_30 : decode prog_6_method_6_code 30 = .ok (.lload_n 3, 1) := by decide +kernel
theorem d_Na_setSmall_31 : decode prog_6_method_6_code 31 = .ok (.ldc2_w 19, 3) := by decide +kernel
theorem d_Na_setSmall_34 : decode prog_6_method_6_code 34 = .ok (.land, 1) := by decide +kernel
theorem d_Na_setSmall_35 : decode prog_6_method_6_code 35 = .ok (.l2i, 1) := by decide +kernel
theorem d_Na_setSmall_36 : decode prog_6_method_6_code 36 = .ok (.iastore, 1) := by decide +kernel
theorem d_Na_setSmall_37 : decode prog_6_method_6_code 37 = .ok (.aload_n 0, 1) := by decide +kernel
theorem d_Na_setSmall_38 : decode prog_6_method_6_code 38 = .ok (.dup, 1) := by decide +kernel
theorem d_Na_setSmall_39 : decode prog_6_method_6_code 39 = .ok (.getfield 15, 3) := by decide +kernel
theorem d_Na_setSmall_42 : decode prog_6_method_6_code 42 = .ok (.iconst 1, 1) := by decide +kernel
theorem d_Na_setSmall_43 : decode prog_6_method_6_code 43 = .ok (.iadd, 1) := by decide +kernel
theorem d_Na_setSmall_44 : decode prog_6_method_6_code 44 = .ok (.putfield 15, 3) := by decide +kernel
theorem d_Na_setSmall_47 : decode prog_6_method_6_code 47 = .ok (.lload_n 3, 1) := by decide +kernel
theorem d_Na_setSmall_48 : decode prog_6_method_6_code 48 = .ok (.bipush 31, 2) := by decide +kernel
theorem d_Na_setSmall_50 : decode prog_6_method_6_code 50 = .ok (.lshr, 1) := by decide +kernel
theorem d_Na_setSmall_51 : decode prog_6_method_6_code 51 = .ok (.lstore_n 3, 1) := by decide +kernel
theorem d_Na_setSmall_52 : decode prog_6_method_6_code 52 = .ok (.goto (-45), 3) := by decide +kernel
theorem d_Na_setSmall_55 : decode prog_6_method_6_code 55 = .ok (.return_, 1) := by decide +kernel
theorem d_Na_copyFrom_0 : decode prog_6_method_7_code 0 = .ok (.aload_n 1, 1) := by decide +kernel
theorem d_Na_copyFrom_1 : decode prog_6_method_7_code 1 = .ok (.getfield 9, 3) := by decide +kernel
theorem d_Na_copyFrom_4 : decode prog_6_method_7_code 4 = .ok (.iconst 0, 1) := by decide +kernel
theorem d_Na_copyFrom_5 : decode prog_6_method_7_code 5 = .ok (.aload_n 0, 1) := by decide +kernel
theorem d_Na_copyFrom_6 : decode prog_6_method_7_code 6 = .ok (.getfield 9, 3) := by decide +kernel
theorem d_Na_copyFrom_9 : decode prog_6_method_7_code 9 = .ok (.iconst 0, 1) := by decide +kernel
theorem d_Na_copyFrom_10 : decode prog_6_method_7_code 10 = .ok (.aload_n 1, 1) := by decide +kernel
theorem d_Na_copyFrom_11 : decode prog_6_method_7_code 11 = .ok (.getfield 15, 3) := by decide +kernel
theorem d_Na_copyFrom_14 : decode prog_6_method_7_code 14 = .ok (.invokestatic 21, 3) := by decide +kernel
theorem d_Na_copyFrom_17 : decode prog_6_method_7_code 17 = .ok (.aload_n 0, 1) := by decide +kernel
theorem d_Na_copyFrom_18 : decode prog_6_method_7_code 18 = .ok (.aload_n 1, 1) := by decide +kernel
theorem d_Na_copyFrom_19 : decode prog_6_method_7_code 19 = .ok (.getfield 15, 3) := by decide +kernel
theorem d_Na_copyFrom_22 : decode prog_6_method_7_code 22 = .ok (.putfield 15, 3) := by decide +kernel
theorem d_Na_copyFrom_25 : decode prog_6_method_7_code 25 = .ok (.return_, 1) := by decide +kernel
theorem d_Na_order_0 : decode prog_6_method_8_code 0 = .ok (.aload_n 0, 1) := by decide +kernel
theorem d_Na_order_1 : decode prog_6_method_8_code 1 = .ok (.getfield 15, 3) := by decide +kernel
theorem d_Na_order_4 : decode prog_6_method_8_code 4 = .ok (.aload_n 1, 1) := by decide +kernel
theorem d_Na_order_5 : decode prog_6_method_8_code 5 = .ok (.getfield 15, 3) := by decide +kernel
theorem d_Na_order_8 : decode prog_6_method_8_code 8 = .ok (.if_icmp .eq 20, 3) := by decide +kernel
theorem d_Na_order_11 : decode prog_6_method_8_code 11 = .ok (.aload_n 0, 1) := by decide +kernel
theorem d_Na_order_12 : decode prog_6_method_8_code 12 = .ok (.getfield 15, 3) := by decide +kernel
theorem d_Na_order_15 : decode prog_6_method_8_code 15 = .ok (.aload_n 1, 1) := by decide +kernel
theorem d_Na_order_16 : decode prog_6_method_8_code 16 = .ok (.getfield 15, 3) := by decide +kernel
theorem d_Na_order_19 : decode prog_6_method_8_code 19 = .ok (.if_icmp .ge 7, 3) := by decide +kernel
theorem d_Na_order_22 : decode prog_6_method_8_code 22 = .ok (.iconst (-1), 1) := by decide +kernel
theorem d_Na_order_23 : decode prog_6_method_8_code 23 = .ok (.goto 4, 3) := by decide +kernel
theorem d_Na_order_26 : decode prog_6_method_8_code 26 = .ok (.iconst 1, 1) := by decide +kernel
theorem d_Na_order_27 : decode prog_6_method_8_code 27 = .ok (.ireturn, 1) := by decide +kernel
theorem d_Na_order_28 : decode prog_6_method_8_code 28 = .ok (.aload_n 0, 1) := by decide +kernel
theorem d_Na_order_29 : decode prog_6_method_8_code 29 = .ok (.getfield 15, 3) := by decide +kernel
theorem d_Na_order_32 : decode prog_6_method_8_code 32 = .ok (.iconst 1, 1) := by decide +kernel
theorem d_Na_order_33 : decode prog_6_method_8_code 33 = .ok (.isub, 1) := by decide +kernel
theorem d_Na_order_34 : decode prog_6_method_8_code 34 = .ok (.istore_n 2, 1) := by decide +kernel
theorem d_Na_order_35 : decode prog_6_method_8_code 35 = .ok (.iload_n 2, 1) := by decide +kernel
theorem d_Na_order_36 : decode prog_6_method_8_code 36 = .ok (.ifCond .lt 45, 3) := by decide +kernel
theorem d_Na_order_39 : decode prog_6_method_8_code 39 = .ok (.aload_n 0, 1) := by decide +kernel
theorem d_Na_order_40 : decode prog_6_method_8_code 40 = .ok (.getfield 9, 3) := by decide +kernel
theorem d_Na_order_43 : decode prog_6_method_8_code 43 = .ok (.iload_n 2, 1) := by decide +kernel
theorem d_Na_order_44 : decode prog_6_method_8_code 44 = .ok (.iaload, 1) := by decide +kernel
theorem d_Na_order_45 : decode prog_6_method_8_code 45 = .ok (.aload_n 1, 1) := by decide +kernel
theorem d_Na_order_46 : decode prog_6_method_8_code 46 = .ok (.getfield 9, 3) := by decide +kernel
theorem d_Na_order_49 : decode prog_6_method_8_code 49 = .ok (.iload_n 2, 1) := by decide +kernel
theorem d_Na_order_50 : decode prog_6_method_8_code 50 = .ok (.iaload, 1) := by decide +kernel
theorem d_Na_order_51 : decode prog_6_method_8_code 51 = .ok (.if_icmp .eq 24, 3) := by decide +kernel
theorem d_Na_order_54 : decode prog_6_method_8_code 54 = .ok (.aload_n 0, 1) := by decide +kernel
theorem d_Na_order_55 : decode prog_6_method_8_code 55 = .ok (.getfield 9, 3) := by decide +kernel
theorem d_Na_order_58 : decode prog_6_method_8_code 58 = .ok (.iload_n 2, 1) := by decide +kernel
theorem d_Na_order_59 : decode prog_6_method_8_code 59 = .ok (.iaload, 1) := by decide +kernel
theorem d_Na_order_60 : decode prog_6_method_8_code 60 = .ok (.aload_n 1, 1) := by decide +kernel
theorem d_Na_order_61 : decode prog_6_method_8_code 61 = .ok (.getfield 9, 3) := by decide +kernel
theorem d_Na_order_64 : decode prog_6_method_8_code 64 = .ok (.iload_n 2, 1) := by decide +kernel
theorem d_Na_order_65 : decode prog_6_method_8_code 65 = .ok (.iaload, 1) := by decide +kernel
theorem d_Na_order_66 : decode prog_6_method_8_code 66 = .ok (.if_icmp .ge 7, 3) := by decide +kernel
theorem d_Na_order_69 : decode prog_6_method_8_code 69 = .ok (.iconst (-1), 1) := by decide +kernel
theorem d_Na_order_70 : decode prog_6_method_8_code 70 = .ok (.goto 4, 3) := by decide +kernel
theorem d_Na_order_73 : decode prog_6_method_8_code 73 = .ok (.iconst 1, 1) := by decide +kernel
theorem d_Na_order_74 : decode prog_6_method_8_code 74 = .ok (.ireturn, 1) := by decide +kernel
theorem d_Na_order_75 : decode prog_6_method_8_code 75 = .ok (.iinc 2 (-1), 3) := by decide +kernel
theorem d_Na_order_78 : decode prog_6_method_8_code 78 = .ok (.goto (-43), 3) := by decide +kernel
theorem d_Na_order_81 : decode prog_6_method_8_code 81 = .ok (.iconst 0, 1) := by decide +kernel
theorem d_Na_order_82 : decode prog_6_method_8_code 82 = .ok (.ireturn, 1) := by decide +kernel
theorem d_Na_push_0 : decode prog_6_method_20_code 0 = .ok (.lload_n 1, 1) := by decide +kernel
theorem d_Na_push_1 : decode prog_6_method_20_code 1 = .ok (.lconst 0, 1) := by decide +kernel
theorem d_Na_push_2 : decode prog_6_method_20_code 2 = .ok (.lcmp, 1) := by decide +kernel
theorem d_Na_push_3 : decode prog_6_method_20_code 3 = .ok (.ifCond .le 33, 3) := by decide +kernel
theorem d_Na_push_6 : decode prog_6_method_20_code 6 = .ok (.aload_n 0, 1) := by decide +kernel
theorem d_Na_push_7 : decode prog_6_method_20_code 7 = .ok (.getfield 15, 3) := by decide +kernel
theorem d_Na_push_10 : decode prog_6_method_20_code 10 = .ok (.bipush 32, 2) := by decide +kernel
theorem d_Na_push_12 : decode prog_6_method_20_code 12 = .ok (.if_icmp .ge 24, 3) := by decide +kernel
theorem d_Na_push_15 : decode prog_6_method_20_code 15 = .ok (.aload_n 0, 1) := by decide +kernel
theorem d_Na_push_16 : decode prog_6_method_20_code 16 = .ok (.getfield 9, 3) := by decide +kernel
theorem d_Na_push_19 : decode prog_6_method_20_code 19 = .ok (.aload_n 0, 1) := by decide +kernel
theorem d_Na_push_20 : decode prog_6_method_20_code 20 = .ok (.getfield 15, 3) := by decide +kernel
theorem d_Na_push_23 : decode prog_6_method_20_code 23 = .ok (.lload_n 1, 1) := by decide +kernel
theorem d_Na_push_24 : decode prog_6_method_20_code 24 = .ok (.l2i, 1) := by decide +kernel
theorem d_Na_push_25 : decode prog_6_method_20_code 25 = .ok (.iastore, 1) := by decide +kernel
theorem d_Na_push_26 : decode prog_6_method_20_code 26 = .ok (.aload_n 0, 1) := by decide +kernel
theorem d_Na_push_27 : decode prog_6_method_20_code 27 = .ok (.dup, 1) := by decide +kernel
theorem d_Na_push_28 : decode prog_6_method_20_code 28 = .ok (.getfield 15, 3) := by decide +kernel
theorem d_Na_push_31 : decode prog_6_method_20_code 31 = .ok (.iconst 1, 1) := by decide +kernel
theorem d_Na_push_32 : decode prog_6_method_20_code 32 = .ok (.iadd, 1) := by decide +kernel
theorem d_Na_push_33 : decode prog_6_method_20_code 33 = .ok (.putfield 15, 3) := by decide +kernel
theorem d_Na_push_36 : decode prog_6_method_20_code 36 = .ok (.return_, 1) := by decide +kernel
theorem d_Na_trim_0 : decode prog_6_method_21_code 0 = .ok (.aload_n 0, 1) := by decide +kernel
theorem d_Na_trim_1 : decode prog_6_method_21_code 1 = .ok (.getfield 15, 3) := by decide +kernel
theorem d_Na_trim_4 : decode prog_6_method_21_code 4 = .ok (.ifCond .le 30, 3) := by decide +kernel
theorem d_Na_trim_7 : decode prog_6_method_21_code 7 = .ok (.aload_n 0, 1) := by decide +kernel
theorem d_Na_trim_8 : decode prog_6_method_21_code 8 = .ok (.getfield 9, 3) := by decide +kernel
theorem d_Na_trim_11 : decode prog_6_method_21_code 11 = .ok (.aload_n 0, 1) := by decide +kernel
theorem d_Na_trim_12 : decode prog_6_method_21_code 12 = .ok (.getfield 15, 3) := by decide +kernel
theorem d_Na_trim_15 : decode prog_6_method_21_code 15 = .ok (.iconst 1, 1) := by decide +kernel
theorem d_Na_trim_16 : decode prog_6_method_21_code 16 = .ok (.isub, 1) := by decide +kernel
theorem d_Na_trim_17 : decode prog_6_method_21_code 17 = .ok (.iaload, 1) := by decide +kernel
theorem d_Na_trim_18 : decode prog_6_method_21_code 18 = .ok (.ifCond .ne 16, 3) := by decide +kernel
theorem d_Na_trim_21 : decode prog_6_method_21_code 21 = .ok (.aload_n 0, 1) := by decide +kernel
theorem d_Na_trim_22 : decode prog_6_method_21_code 22 = .ok (.dup, 1) := by decide +kernel
theorem d_Na_trim_23 : decode prog_6_method_21_code 23 = .ok (.getfield 15, 3) := by decide +kernel
theorem d_Na_trim_26 : decode prog_6_method_21_code 26 = .ok (.iconst 1, 1) := by decide +kernel
theorem d_Na_trim_27 : decode prog_6_method_21_code 27 = .ok (.isub, 1) := by decide +kernel
theorem d_Na_trim_28 : decode prog_6_method_21_code 28 = .ok (.putfield 15, 3) := by decide +kernel
theorem d_Na_trim_31 : decode prog_6_method_21_code 31 = .ok (.goto (-31), 3) := by decide +kernel
theorem d_Na_trim_34 : decode prog_6_method_21_code 34 = .ok (.return_, 1) := by decide +kernel
theorem d_Na_add_0 : decode prog_6_method_9_code 0 = .ok (.aload_n 0, 1) := by decide +kernel
theorem d_Na_add_1 : decode prog_6_method_9_code 1 = .ok (.getfield 15, 3) := by decide +kernel
theorem d_Na_add_4 : decode prog_6_method_9_code 4 = .ok (.aload_n 1, 1) := by decide +kernel
theorem d_Na_add_5 : decode prog_6_method_9_code 5 = .ok (.getfield 15, 3) := by decide +kernel
theorem d_Na_add_8 : decode prog_6_method_9_code 8 = .ok (.invokestatic 27, 3) := by decide +kernel
theorem d_Na_add_11 : decode prog_6_method_9_code 11 = .ok (.istore_n 2, 1) := by decide +kernel
theorem d_Na_add_12 : decode prog_6_method_9_code 12 = .ok (.lconst 0, 1) := by decide +kernel
theorem d_Na_add_13 : decode prog_6_method_9_code 13 = .ok (.lstore_n 3, 1) := by decide +kernel
theorem d_Na_add_14 : decode prog_6_method_9_code 14 = .ok (.iconst 0, 1) := by decide +kernel
theorem d_Na_add_15 : decode prog_6_method_9_code 15 = .ok (.istore 5, 2) := by decide +kernel
theorem d_Na_add_17 : decode prog_6_method_9_code 17 = .ok (.iload 5, 2) := by decide +kernel
theorem d_Na_add_19 : decode prog_6_method_9_code 19 = .ok (.iload_n 2, 1) := by decide +kernel
theorem d_Na_add_20 : decode prog_6_method_9_code 20 = .ok (.if_icmp .ge 81, 3) := by decide +kernel
theorem d_Na_add_23 : decode prog_6_method_9_code 23 = .ok (.iload 5, 2) := by decide +kernel
theorem d_Na_add_25 : decode prog_6_method_9_code 25 = .ok (.aload_n 0, 1) := by decide +kernel
theorem d_Na_add_26 : decode prog_6_method_9_code 26 = .ok (.getfield 15, 3) := by decide +kernel
theorem d_Na_add_29 : decode prog_6_method_9_code 29 = .ok (.if_icmp .ge 14, 3) := by decide +kernel
theorem d_Na_add_32 : decode prog_6_method_9_code 32 = .ok (.aload_n 0, 1) := by decide +kernel
theorem d_Na_add_33 : decode prog_6_method_9_code 33 = .ok (.getfield 9, 3) := by decide +kernel
theorem d_Na_add_36 : decode prog_6_method_9_code 36 = .ok (.iload 5, 2) := by decide +kernel
theorem d_Na_add_38 : decode prog_6_method_9_code 38 = .ok (.iaload, 1) := by decide +kernel
theorem d_Na_add_39 : decode prog_6_method_9_code 39 = .ok (.i2l, 1) := by decide +kernel
theorem d_Na_add_40 : decode prog_6_method_9_code 40 = .ok (.goto 4, 3) := by decide +kernel
theorem d_Na_add_43 : decode prog_6_method_9_code 43 = .ok (.lconst 0, 1) := by decide +kernel
theorem d_Na_add_44 : decode prog_6_method_9_code 44 = .ok (.lstore 6, 2) := by decide +kernel
theorem d_Na_add_46 : decode prog_6_method_9_code 46 = .ok (.iload 5, 2) := by decide +kernel
theorem d_Na_add_48 : decode prog_6_method_9_code 48 = .ok (.aload_n 1, 1) := by decide +kernel
theorem d_Na_add_49 : decode prog_6_method_9_code 49 = .ok (.getfield 15, 3) := by decide +kernel
theorem d_Na_add_52 : decode prog_6_method_9_code 52 = .ok (.if_icmp .ge 14, 3) := by decide +kernel
theorem d_Na_add_55 : decode prog_6_method_9_code 55 = .ok (.aload_n 1, 1) := by decide +kernel
theorem d_Na_add_56 : decode prog_6_method_9_code 56 = .ok (.getfield 9, 3) := by decide +kernel
theorem d_Na_add_59 : decode prog_6_method_9_code 59 = .ok (.iload 5, 2) := by decide +kernel
theorem d_Na_add_61 : decode prog_6_method_9_code 61 = .ok (.iaload, 1) := by decide +kernel
theorem d_Na_add_62 : decode prog_6_method_9_code 62 = .ok (.i2l, 1) := by decide +kernel
theorem d_Na_add_63 : decode prog_6_method_9_code 63 = .ok (.goto 4, 3) := by decide +kernel
theorem d_Na_add_66 : decode prog_6_method_9_code 66 = .ok (.lconst 0, 1) := by decide +kernel
theorem d_Na_add_67 : decode prog_6_method_9_code 67 = .ok (.lstore 8, 2) := by decide +kernel
theorem d_Na_add_69 : decode prog_6_method_9_code 69 = .ok (.lload_n 3, 1) := by decide +kernel
theorem d_Na_add_70 : decode prog_6_method_9_code 70 = .ok (.lload 6, 2) := by decide +kernel
theorem d_Na_add_72 : decode prog_6_method_9_code 72 = .ok (.lload 8, 2) := by decide +kernel
theorem d_Na_add_74 : decode prog_6_method_9_code 74 = .ok (.ladd, 1) := by decide +kernel
theorem d_Na_add_75 : decode prog_6_method_9_code 75 = .ok (.ladd, 1) := by decide +kernel
theorem d_Na_add_76 : decode prog_6_method_9_code 76 = .ok (.lstore_n 3, 1) := by decide +kernel
theorem d_Na_add_77 : decode prog_6_method_9_code 77 = .ok (.aload_n 0, 1) := by decide +kernel
theorem d_Na_add_78 : decode prog_6_method_9_code 78 = .ok (.getfield 9, 3) := by decide +kernel
theorem d_Na_add_81 : decode prog_6_method_9_code 81 = .ok (.iload 5, 2) := by decide +kernel
theorem d_Na_add_83 : decode prog_6_method_9_code 83 = .ok (.lload_n 3, 1) := by decide +kernel
theorem d_Na_add_84 : decode prog_6_method_9_code 84 = .ok (.ldc2_w 19, 3) := by decide +kernel
theorem d_Na_add_87 : decode prog_6_method_9_code 87 = .ok (.land, 1) := by decide +kernel
theorem d_Na_add_88 : decode prog_6_method_9_code 88 = .ok (.l2i, 1) := by decide +kernel
theorem d_Na_add_89 : decode prog_6_method_9_code 89 = .ok (.iastore, 1) := by decide +kernel
theorem d_Na_add_90 : decode prog_6_method_9_code 90 = .ok (.lload_n 3, 1) := by decide +kernel
theorem d_Na_add_91 : decode prog_6_method_9_code 91 = .ok (.bipush 31, 2) := by decide +kernel
theorem d_Na_add_93 : decode prog_6_method_9_code 93 = .ok (.lshr, 1) := by decide +kernel
theorem d_Na_add_94 : decode prog_6_method_9_code 94 = .ok (.lstore_n 3, 1) := by decide +kernel
theorem d_Na_add_95 : decode prog_6_method_9_code 95 = .ok (.iinc 5 1, 3) := by decide +kernel
theorem d_Na_add_98 : decode prog_6_method_9_code 98 = .ok (.goto (-81), 3) := by decide +kernel
theorem d_Na_add_101 : decode prog_6_method_9_code 101 = .ok (.aload_n 0, 1) := by decide +kernel
theorem d_Na_add_102 : decode prog_6_method_9_code 102 = .ok (.iload_n 2, 1) := by decide +kernel
theorem d_Na_add_103 : decode prog_6_method_9_code 103 = .ok (.putfield 15, 3) := by decide +kernel
theorem d_Na_add_106 : decode prog_6_method_9_code 106 = .ok (.aload_n 0, 1) := by decide +kernel
theorem d_Na_add_107 : decode prog_6_method_9_code 107 = .ok (.lload_n 3, 1) := by decide +kernel
theorem d_Na_add_108 : decode prog_6_method_9_code 108 = .ok (.invokevirtual 33, 3) := by decide +kernel
theorem d_Na_add_111 : decode prog_6_method_9_code 111 = .ok (.return_, 1) := by decide +kernel
theorem d_Na_takeOff_0 : decode prog_6_method_10_code 0 = .ok (.lconst 0, 1) := by decide +kernel
theorem d_Na_takeOff_1 : decode prog_6_method_10_code 1 = .ok (.lstore_n 2, 1) := by decide +kernel
theorem d_Na_takeOff_2 : decode prog_6_method_10_code 2 = .ok (.iconst 0, 1) := by decide +kernel
theorem d_Na_takeOff_3 : decode prog_6_method_10_code 3 = .ok (.istore 4, 2) := by decide +kernel
theorem d_Na_takeOff_5 : decode prog_6_method_10_code 5 = .ok (.iload 4, 2) := by decide +kernel
theorem d_Na_takeOff_7 : decode prog_6_method_10_code 7 = .ok (.aload_n 0, 1) := by decide +kernel
theorem d_Na_takeOff_8 : decode prog_6_method_10_code 8 = .ok (.getfield 15, 3) := by decide +kernel
theorem d_Na_takeOff_11 : decode prog_6_method_10_code 11 = .ok (.if_icmp .ge 74, 3) := by decide +kernel
theorem d_Na_takeOff_14 : decode prog_6_method_10_code 14 = .ok (.iload 4, 2) := by decide +kernel
theorem d_Na_takeOff_16 : decode prog_6_method_10_code 16 = .ok (.aload_n 1, 1) := by decide +kernel
theorem d_Na_takeOff_17 : decode prog_6_method_10_code 17 = .ok (.getfield 15, 3) := by decide +kernel
theorem d_Na_takeOff_20 : decode prog_6_method_10_code 20 = .ok (.if_icmp .ge 14, 3) := by decide +kernel
theorem d_Na_takeOff_23 : decode prog_6_method_10_code 23 = .ok (.aload_n 1, 1) := by decide +kernel
theorem d_Na_takeOff_24 : decode prog_6_method_10_code 24 = .ok (.getfield 9, 3) := by decide +kernel
theorem d_Na_takeOff_27 : decode prog_6_method_10_code 27 = .ok (.iload 4, 2) := by decide +kernel
theorem d_Na_takeOff_29 : decode prog_6_method_10_code 29 = .ok (.iaload, 1) := by decide +kernel
theorem d_Na_takeOff_30 : decode prog_6_method_10_code 30 = .ok (.i2l, 1) := by decide +kernel
theorem d_Na_takeOff_31 : decode prog_6_method_10_code 31 = .ok (.goto 4, 3) := by decide +kernel
theorem d_Na_takeOff_34 : decode prog_6_method_10_code 34 = .ok (.lconst 0, 1) := by decide +kernel
theorem d_Na_takeOff_35 : decode prog_6_method_10_code 35 = .ok (.lstore 5, 2) := by decide +kernel
theorem d_Na_takeOff_37 : decode prog_6_method_10_code 37 = .ok (.aload_n 0, 1) := by decide +kernel
theorem d_Na_takeOff_38 : decode prog_6_method_10_code 38 = .ok (.getfield 9, 3) := by decide +kernel
theorem d_Na_takeOff_41 : decode prog_6_method_10_code 41 = .ok (.iload 4, 2) := by decide +kernel
theorem d_Na_takeOff_43 : decode prog_6_method_10_code 43 = .ok (.iaload, 1) := by decide +kernel
theorem d_Na_takeOff_44 : decode prog_6_method_10_code 44 = .ok (.i2l, 1) := by decide +kernel
theorem d_Na_takeOff_45 : decode prog_6_method_10_code 45 = .ok (.lload 5, 2) := by decide +kernel
theorem d_Na_takeOff_47 : decode prog_6_method_10_code 47 = .ok (.lsub, 1) := by decide +kernel
theorem d_Na_takeOff_48 : decode prog_6_method_10_code 48 = .ok (.lload_n 2, 1) := by decide +kernel
theorem d_Na_takeOff_49 : decode prog_6_method_10_code 49 = .ok (.lsub, 1) := by decide +kernel
theorem d_Na_takeOff_50 : decode prog_6_method_10_code 50 = .ok (.lstore 7, 2) := by decide +kernel
theorem d_Na_takeOff_52 : decode prog_6_method_10_code 52 = .ok (.lload 7, 2) := by decide +kernel
theorem d_Na_takeOff_54 : decode prog_6_method_10_code 54 = .ok (.lconst 0, 1) := by decide +kernel
theorem d_Na_takeOff_55 : decode prog_6_method_10_code 55 = .ok (.lcmp, 1) := by decide +kernel
theorem d_Na_takeOff_56 : decode prog_6_method_10_code 56 = .ok (.ifCond .ge 7, 3) := by decide +kernel
theorem d_Na_takeOff_59 : decode prog_6_method_10_code 59 = .ok (.lconst 1, 1) := by decide +kernel
theorem d_Na_takeOff_60 : decode prog_6_method_10_code 60 = .ok (.goto 4, 3) := by decide +kernel
theorem d_Na_takeOff_63 : decode prog_6_method_10_code 63 = .ok (.lconst 0, 1) := by decide +kernel
theorem d_Na_takeOff_64 : decode prog_6_method_10_code 64 = .ok (.lstore_n 2, 1) := by decide +kernel
theorem d_Na_takeOff_65 : decode prog_6_method_10_code 65 = .ok (.aload_n 0, 1) := by decide +kernel
theorem d_Na_takeOff_66 : decode prog_6_method_10_code 66 = .ok (.getfield 9, 3) := by decide +kernel
theorem d_Na_takeOff_69 : decode prog_6_method_10_code 69 = .ok (.iload 4, 2) := by decide +kernel
theorem d_Na_takeOff_71 : decode prog_6_method_10_code 71 = .ok (.lload 7, 2) := by decide +kernel
theorem d_Na_takeOff_73 : decode prog_6_method_10_code 73 = .ok (.ldc2_w 19, 3) := by decide +kernel
theorem d_Na_takeOff_76 : decode prog_6_method_10_code 76 = .ok (.land, 1) := by decide +kernel
theorem d_Na_takeOff_77 : decode prog_6_method_10_code 77 = .ok (.l2i, 1) := by decide +kernel
theorem d_Na_takeOff_78 : decode prog_6_method_10_code 78 = .ok (.iastore, 1) := by decide +kernel
theorem d_Na_takeOff_79 : decode prog_6_method_10_code 79 = .ok (.iinc 4 1, 3) := by decide +kernel
theorem d_Na_takeOff_82 : decode prog_6_method_10_code 82 = .ok (.goto (-77), 3) := by decide +kernel
theorem d_Na_takeOff_85 : decode prog_6_method_10_code 85 = .ok (.aload_n 0, 1) := by decide +kernel
theorem d_Na_takeOff_86 : decode prog_6_method_10_code 86 = .ok (.invokevirtual 37, 3) := by decide +kernel
theorem d_Na_takeOff_89 : decode prog_6_method_10_code 89 = .ok (.return_, 1) := by decide +kernel
theorem d_Na_times_0 : decode prog_6_method_11_code 0 = .ok (.lconst 0, 1) := by decide +kernel
theorem d_Na_times_1 : decode prog_6_method_11_code 1 = .ok (.lstore_n 2, 1) := by decide +kernel
theorem d_Na_times_2 : decode prog_6_method_11_code 2 = .ok (.iconst 0, 1) := by decide +kernel
theorem d_Na_times_3 : decode prog_6_method_11_code 3 = .ok (.istore 4, 2) := by decide +kernel
theorem d_Na_times_5 : decode prog_6_method_11_code 5 = .ok (.iload 4, 2) := by decide +kernel
theorem d_Na_times_7 : decode prog_6_method_11_code 7 = .ok (.aload_n 0, 1) := by decide +kernel
theorem d_Na_times_8 : decode prog_6_method_11_code 8 = .ok (.getfield 15, 3) := by decide +kernel
theorem d_Na_times_11 : decode prog_6_method_11_code 11 = .ok (.if_icmp .ge 41, 3) := by decide +kernel
theorem d_Na_times_14 : decode prog_6_method_11_code 14 = .ok (.lload_n 2, 1) := by decide +kernel
theorem d_Na_times_15 : decode prog_6_method_11_code 15 = .ok (.aload_n 0, 1) := by decide +kernel
theorem d_Na_times_16 : decode prog_6_method_11_code 16 = .ok (.getfield 9, 3) := by decide +kernel
theorem d_Na_times_19 : decode prog_6_method_11_code 19 = .ok (.iload 4, 2) := by decide +kernel
theorem d_Na_times_21 : decode prog_6_method_11_code 21 = .ok (.iaload, 1) := by decide +kernel
theorem d_Na_times_22 : decode prog_6_method_11_code 22 = .ok (.i2l, 1) := by decide +kernel
theorem d_Na_times_23 : decode prog_6_method_11_code 23 = .ok (.iload_n 1, 1) := by decide +kernel
theorem d_Na_times_24 : decode prog_6_method_11_code 24 = .ok (.i2l, 1) := by decide +kernel
theorem d_Na_times_25 : decode prog_6_method_11_code 25 = .ok (.lmul, 1) := by decide +kernel
theorem d_Na_times_26 : decode prog_6_method_11_code 26 = .ok (.ladd, 1) := by decide +kernel
theorem d_Na_times_27 : decode prog_6_method_11_code 27 = .ok (.lstore_n 2, 1) := by decide +kernel
theorem d_Na_times_28 : decode prog_6_method_11_code 28 = .ok (.aload_n 0, 1) := by decide +kernel
theorem d_Na_times_29 : decode prog_6_method_11_code 29 = .ok (.getfield 9, 3) := by decide +kernel
theorem d_Na_times_32 : decode prog_6_method_11_code 32 = .ok (.iload 4, 2) := by decide +kernel
theorem d_Na_times_34 : decode prog_6_method_11_code 34 = .ok (.lload_n 2, 1) := by decide +kernel
theorem d_Na_times_35 : decode prog_6_method_11_code 35 = .ok (.ldc2_w 19, 3) := by decide +kernel
theorem d_Na_times_38 : decode prog_6_method_11_code 38 = .ok (.land, 1) := by decide +kernel
theorem d_Na_times_39 : decode prog_6_method_11_code 39 = .ok (.l2i, 1) := by decide +kernel
theorem d_Na_times_40 : decode prog_6_method_11_code 40 = .ok (.iastore, 1) := by decide +kernel
theorem d_Na_times_41 : decode prog_6_method_11_code 41 = .ok (.lload_n 2, 1) := by decide +kernel
theorem d_Na_times_42 : decode prog_6_method_11_code 42 = .ok (.bipush 31, 2) := by decide +kernel
theorem d_Na_times_44 : decode prog_6_method_11_code 44 = .ok (.lshr, 1) := by decide +kernel
theorem d_Na_times_45 : decode prog_6_method_11_code 45 = .ok (.lstore_n 2, 1) := by decide +kernel
theorem d_Na_times_46 : decode prog_6_method_11_code 46 = .ok (.iinc 4 1, 3) := by decide +kernel
theorem d_Na_times_49 : decode prog_6_method_11_code 49 = .ok (.goto (-44), 3) := by decide +kernel
theorem d_Na_times_52 : decode prog_6_method_11_code 52 = .ok (.aload_n 0, 1) := by decide +kernel
theorem d_Na_times_53 : decode prog_6_method_11_code 53 = .ok (.lload_n 2, 1) := by decide +kernel
theorem d_Na_times_54 : decode prog_6_method_11_code 54 = .ok (.invokevirtual 33, 3) := by decide +kernel
theorem d_Na_times_57 : decode prog_6_method_11_code 57 = .ok (.aload_n 0, 1) := by decide +kernel
theorem d_Na_times_58 : decode prog_6_method_11_code 58 = .ok (.invokevirtual 37, 3) := by decide +kernel
theorem d_Na_times_61 : decode prog_6_method_11_code 61 = .ok (.return_, 1) := by decide +kernel
theorem d_Na_divideSmall_0 : decode prog_6_method_13_code 0 = .ok (.iload_n 1, 1) := by decide +kernel
theorem d_Na_divideSmall_1 : decode prog_6_method_13_code 1 = .ok (.iconst 1, 1) := by decide +kernel
theorem d_Na_divideSmall_2 : decode prog_6_method_13_code 2 = .ok (.if_icmp .ge 5, 3) := by decide +kernel
theorem d_Na_divideSmall_5 : decode prog_6_method_13_code 5 = .ok (.iconst 0, 1) := by decide +kernel
theorem d_Na_divideSmall_6 : decode prog_6_method_13_code 6 = .ok (.ireturn, 1) := by decide +kernel
theorem d_Na_divideSmall_7 : decode prog_6_method_13_code 7 = .ok (.lconst 0, 1) := by decide +kernel
theorem d_Na_divideSmall_8 : decode prog_6_method_13_code 8 = .ok (.lstore_n 2, 1) := by decide +kernel
theorem d_Na_divideSmall_9 : decode prog_6_method_13_code 9 = .ok (.aload_n 0, 1) := by decide +kernel
theorem d_Na_divideSmall_10 : decode prog_6_method_13_code 10 = .ok (.getfield 15, 3) := by decide +kernel
theorem d_Na_divideSmall_13 : decode prog_6_method_13_code 13 = .ok (.iconst 1, 1) := by decide +kernel
theorem d_Na_divideSmall_14 : decode prog_6_method_13_code 14 = .ok (.isub, 1) := by decide +kernel
theorem d_Na_divideSmall_15 : decode prog_6_method_13_code 15 = .ok (.istore 4, 2) := by decide +kernel
theorem d_Na_divideSmall_17 : decode prog_6_method_13_code 17 = .ok (.iload 4, 2) := by decide +kernel
theorem d_Na_divideSmall_19 : decode prog_6_method_13_code 19 = .ok (.ifCond .lt 40, 3) := by decide +kernel
theorem d_Na_divideSmall_22 : decode prog_6_method_13_code 22 = .ok (.lload_n 2, 1) := by decide +kernel
theorem d_Na_divideSmall_23 : decode prog_6_method_13_code 23 = .ok (.bipush 31, 2) := by decide +kernel
theorem d_Na_divideSmall_25 : decode prog_6_method_13_code 25 = .ok (.lshl, 1) := by decide +kernel
theorem d_Na_divideSmall_26 : decode prog_6_method_13_code 26 = .ok (.aload_n 0, 1) := by decide +kernel
theorem d_Na_divideSmall_27 : decode prog_6_method_13_code 27 = .ok (.getfield 9, 3) := by decide +kernel
theorem d_Na_divideSmall_30 : decode prog_6_method_13_code 30 = .ok (.iload 4, 2) := by decide +kernel
theorem d_Na_divideSmall_32 : decode prog_6_method_13_code 32 = .ok (.iaload, 1) := by decide +kernel
theorem d_Na_divideSmall_33 : decode prog_6_method_13_code 33 = .ok (.i2l, 1) := by decide +kernel
theorem d_Na_divideSmall_34 : decode prog_6_method_13_code 34 = .ok (.lor, 1) := by decide +kernel
theorem d_Na_divideSmall_35 : decode prog_6_method_13_code 35 = .ok (.lstore_n 2, 1) := by decide +kernel
theorem d_Na_divideSmall_36 : decode prog_6_method_13_code 36 = .ok (.aload_n 0, 1) := by decide +kernel
theorem d_Na_divideSmall_37 : decode prog_6_method_13_code 37 = .ok (.getfield 9, 3) := by decide +kernel
theorem d_Na_divideSmall_40 : decode prog_6_method_13_code 40 = .ok (.iload 4, 2) := by decide +kernel
theorem d_Na_divideSmall_42 : decode prog_6_method_13_code 42 = .ok (.lload_n 2, 1) := by decide +kernel
theorem d_Na_divideSmall_43 : decode prog_6_method_13_code 43 = .ok (.iload_n 1, 1) := by decide +kernel
theorem d_Na_divideSmall_44 : decode prog_6_method_13_code 44 = .ok (.i2l, 1) := by decide +kernel
theorem d_Na_divideSmall_45 : decode prog_6_method_13_code 45 = .ok (.ldiv, 1) := by decide +kernel
theorem d_Na_divideSmall_46 : decode prog_6_method_13_code 46 = .ok (.l2i, 1) := by decide +kernel
theorem d_Na_divideSmall_47 : decode prog_6_method_13_code 47 = .ok (.iastore, 1) := by decide +kernel
theorem d_Na_divideSmall_48 : decode prog_6_method_13_code 48 = .ok (.lload_n 2, 1) := by decide +kernel
theorem d_Na_divideSmall_49 : decode prog_6_method_13_code 49 = .ok (.iload_n 1, 1) := by decide +kernel
theorem d_Na_divideSmall_50 : decode prog_6_method_13_code 50 = .ok (.i2l, 1) := by decide +kernel
theorem d_Na_divideSmall_51 : decode prog_6_method_13_code 51 = .ok (.lrem, 1) := by decide +kernel
theorem d_Na_divideSmall_52 : decode prog_6_method_13_code 52 = .ok (.lstore_n 2, 1) := by decide +kernel
theorem d_Na_divideSmall_53 : decode prog_6_method_13_code 53 = .ok (.iinc 4 (-1), 3) := by decide +kernel
theorem d_Na_divideSmall_56 : decode prog_6_method_13_code 56 = .ok (.goto (-39), 3) := by decide +kernel
theorem d_Na_divideSmall_59 : decode prog_6_method_13_code 59 = .ok (.aload_n 0, 1) := by decide +kernel
theorem d_Na_divideSmall_60 : decode prog_6_method_13_code 60 = .ok (.invokevirtual 37, 3) := by decide +kernel
theorem d_Na_divideSmall_63 : decode prog_6_method_13_code 63 = .ok (.lload_n 2, 1) := by decide +kernel
theorem d_Na_divideSmall_64 : decode prog_6_method_13_code 64 = .ok (.l2i, 1) := by decide +kernel
theorem d_Na_divideSmall_65 : decode prog_6_method_13_code 65 = .ok (.ireturn, 1) := by decide +kernel
theorem d_Na_freeBits_0 : decode prog_6_method_17_code 0 = .ok (.iconst 0, 1) := by decide +kernel
theorem d_Na_freeBits_1 : decode prog_6_method_17_code 1 = .ok (.istore_n 1, 1) := by decide +kernel
theorem d_Na_freeBits_2 : decode prog_6_method_17_code 2 = .ok (.aload_n 0, 1) := by decide +kernel
theorem d_Na_freeBits_3 : decode prog_6_method_17_code 3 = .ok (.getfield 15, 3) := by decide +kernel
theorem d_Na_freeBits_6 : decode prog_6_method_17_code 6 = .ok (.ifCond .le 35, 3) := by decide +kernel
theorem d_Na_freeBits_9 : decode prog_6_method_17_code 9 = .ok (.aload_n 0, 1) := by decide +kernel
theorem d_Na_freeBits_10 : decode prog_6_method_17_code 10 = .ok (.getfield 9, 3) := by decide +kernel
theorem d_Na_freeBits_13 : decode prog_6_method_17_code 13 = .ok (.aload_n 0, 1) := by decide +kernel
theorem d_Na_freeBits_14 : decode prog_6_method_17_code 14 = .ok (.getfield 15, 3) := by decide +kernel
theorem d_Na_freeBits_17 : decode prog_6_method_17_code 17 = .ok (.iconst 1, 1) := by decide +kernel
theorem d_Na_freeBits_18 : decode prog_6_method_17_code 18 = .ok (.isub, 1) := by decide +kernel
theorem d_Na_freeBits_19 : decode prog_6_method_17_code 19 = .ok (.iaload, 1) := by decide +kernel
theorem d_Na_freeBits_20 : decode prog_6_method_17_code 20 = .ok (.istore_n 2, 1) := by decide +kernel
theorem d_Na_freeBits_21 : decode prog_6_method_17_code 21 = .ok (.iload_n 1, 1) := by decide +kernel
theorem d_Na_freeBits_22 : decode prog_6_method_17_code 22 = .ok (.bipush 30, 2) := by decide +kernel
theorem d_Na_freeBits_24 : decode prog_6_method_17_code 24 = .ok (.if_icmp .ge 17, 3) := by decide +kernel
theorem d_Na_freeBits_27 : decode prog_6_method_17_code 27 = .ok (.iload_n 2, 1) := by decide +kernel
theorem d_Na_freeBits_28 : decode prog_6_method_17_code 28 = .ok (.iload_n 1, 1) := by decide +kernel
theorem d_Na_freeBits_29 : decode prog_6_method_17_code 29 = .ok (.ishl, 1) := by decide +kernel
theorem d_Na_freeBits_30 : decode prog_6_method_17_code 30 = .ok (.ldc 82, 2) := by decide +kernel
theorem d_Na_freeBits_32 : decode prog_6_method_17_code 32 = .ok (.if_icmp .ge 9, 3) := by decide +kernel
theorem d_Na_freeBits_35 : decode prog_6_method_17_code 35 = .ok (.iinc 1 1, 3) := by decide +kernel
theorem d_Na_freeBits_38 : decode prog_6_method_17_code 38 = .ok (.goto (-17), 3) := by decide +kernel
theorem d_Na_freeBits_41 : decode prog_6_method_17_code 41 = .ok (.iload_n 1, 1) := by decide +kernel
theorem d_Na_freeBits_42 : decode prog_6_method_17_code 42 = .ok (.ireturn, 1) := by decide +kernel
theorem d_Na_shiftUp_0 : decode prog_6_method_18_code 0 = .ok (.lconst 0, 1) := by decide +kernel
theorem d_Na_shiftUp_1 : decode prog_6_method_18_code 1 = .ok (.lstore_n 2, 1) := by decide +kernel
theorem d_Na_shiftUp_2 : decode prog_6_method_18_code 2 = .ok (.iconst 0, 1) := by decide +kernel
theorem d_Na_shiftUp_3 : decode prog_6_method_18_code 3 = .ok (.istore 4, 2) := by decide +kernel
theorem d_Na_shiftUp_5 : decode prog_6_method_18_code 5 = .ok (.iload 4, 2) := by decide +kernel
theorem d_Na_shiftUp_7 : decode prog_6_method_18_code 7 = .ok (.aload_n 0, 1) := by decide +kernel
theorem d_Na_shiftUp_8 : decode prog_6_method_18_code 8 = .ok (.getfield 15, 3) := by decide +kernel
theorem d_Na_shiftUp_11 : decode prog_6_method_18_code 11 = .ok (.if_icmp .ge 40, 3) := by decide +kernel
theorem d_Na_shiftUp_14 : decode prog_6_method_18_code 14 = .ok (.lload_n 2, 1) := by decide +kernel
theorem d_Na_shiftUp_15 : decode prog_6_method_18_code 15 = .ok (.aload_n 0, 1) := by decide +kernel
theorem d_Na_shiftUp_16 : decode prog_6_method_18_code 16 = .ok (.getfield 9, 3) := by decide +kernel
theorem d_Na_shiftUp_19 : decode prog_6_method_18_code 19 = .ok (.iload 4, 2) := by decide +kernel
theorem d_Na_shiftUp_21 : decode prog_6_method_18_code 21 = .ok (.iaload, 1) := by decide +kernel
theorem d_Na_shiftUp_22 : decode prog_6_method_18_code 22 = .ok (.i2l, 1) := by decide +kernel
theorem d_Na_shiftUp_23 : decode prog_6_method_18_code 23 = .ok (.iload_n 1, 1) := by decide +kernel
theorem d_Na_shiftUp_24 : decode prog_6_method_18_code 24 = .ok (.lshl, 1) := by decide +kernel
theorem d_Na_shiftUp_25 : decode prog_6_method_18_code 25 = .ok (.lor, 1) := by decide +kernel
theorem d_Na_shiftUp_26 : decode prog_6_method_18_code 26 = .ok (.lstore_n 2, 1) := by decide +kernel
theorem d_Na_shiftUp_27 : decode prog_6_method_18_code 27 = .ok (.aload_n 0, 1) := by decide +kernel
theorem d_Na_shiftUp_28 : decode prog_6_method_18_code 28 = .ok (.getfield 9, 3) := by decide +kernel
theorem d_Na_shiftUp_31 : decode prog_6_method_18_code 31 = .ok (.iload 4, 2) := by decide +kernel
theorem d_Na_shiftUp_33 : decode prog_6_method_18_code 33 = .ok (.lload_n 2, 1) := by decide +kernel
theorem d_Na_shiftUp_34 : decode prog_6_method_18_code 34 = .ok (.ldc2_w 19, 3) := by decide +kernel
theorem d_Na_shiftUp_37 : decode prog_6_method_18_code 37 = .ok (.land, 1) := by decide +kernel
theorem d_Na_shiftUp_38 : decode prog_6_method_18_code 38 = .ok (.l2i, 1) := by decide +kernel
theorem d_Na_shiftUp_39 : decode prog_6_method_18_code 39 = .ok (.iastore, 1) := by decide +kernel
theorem d_Na_shiftUp_40 : decode prog_6_method_18_code 40 = .ok (.lload_n 2, 1) := by decide +kernel
theorem d_Na_shiftUp_41 : decode prog_6_method_18_code 41 = .ok (.bipush 31, 2) := by decide +kernel
theorem d_Na_shiftUp_43 : decode prog_6_method_18_code 43 = .ok (.lshr, 1) := by decide +kernel
theorem d_Na_shiftUp_44 : decode prog_6_method_18_code 44 = .ok (.lstore_n 2, 1) := by decide +kernel
theorem d_Na_shiftUp_45 : decode prog_6_method_18_code 45 = .ok (.iinc 4 1, 3) := by decide +kernel
theorem d_Na_shiftUp_48 : decode prog_6_method_18_code 48 = .ok (.goto (-43), 3) := by decide +kernel
theorem d_Na_shiftUp_51 : decode prog_6_method_18_code 51 = .ok (.aload_n 0, 1) := by decide +kernel
theorem d_Na_shiftUp_52 : decode prog_6_method_18_code 52 = .ok (.lload_n 2, 1) := by decide +kernel
theorem d_Na_shiftUp_53 : decode prog_6_method_18_code 53 = .ok (.invokevirtual 33, 3) := by decide +kernel
theorem d_Na_shiftUp_56 : decode prog_6_method_18_code 56 = .ok (.return_, 1) := by decide +kernel
theorem d_Na_shiftDown_0 : decode prog_6_method_19_code 0 = .ok (.lconst 0, 1) := by decide +kernel
theorem d_Na_shiftDown_1 : decode prog_6_method_19_code 1 = .ok (.lstore_n 2, 1) := by decide +kernel
theorem d_Na_shiftDown_2 : decode prog_6_method_19_code 2 = .ok (.aload_n 0, 1) := by decide +kernel
theorem d_Na_shiftDown_3 : decode prog_6_method_19_code 3 = .ok (.getfield 15, 3) := by decide +kernel
theorem d_Na_shiftDown_6 : decode prog_6_method_19_code 6 = .ok (.iconst 1, 1) := by decide +kernel
theorem d_Na_shiftDown_7 : decode prog_6_method_19_code 7 = .ok (.isub, 1) := by decide +kernel
theorem d_Na_shiftDown_8 : decode prog_6_method_19_code 8 = .ok (.istore 4, 2) := by decide +kernel
theorem d_Na_shiftDown_10 : decode prog_6_method_19_code 10 = .ok (.iload 4, 2) := by decide +kernel
theorem d_Na_shiftDown_12 : decode prog_6_method_19_code 12 = .ok (.ifCond .lt 42, 3) := by decide +kernel
theorem d_Na_shiftDown_15 : decode prog_6_method_19_code 15 = .ok (.lload_n 2, 1) := by decide +kernel
theorem d_Na_shiftDown_16 : decode prog_6_method_19_code 16 = .ok (.bipush 31, 2) := by decide +kernel
theorem d_Na_shiftDown_18 : decode prog_6_method_19_code 18 = .ok (.lshl, 1) := by decide +kernel
theorem d_Na_shiftDown_19 : decode prog_6_method_19_code 19 = .ok (.aload_n 0, 1) := by decide +kernel
theorem d_Na_shiftDown_20 : decode prog_6_method_19_code 20 = .ok (.getfield 9, 3) := by decide +kernel
theorem d_Na_shiftDown_23 : decode prog_6_method_19_code 23 = .ok (.iload 4, 2) := by decide +kernel
theorem d_Na_shiftDown_25 : decode prog_6_method_19_code 25 = .ok (.iaload, 1) := by decide +kernel
theorem d_Na_shiftDown_26 : decode prog_6_method_19_code 26 = .ok (.i2l, 1) := by decide +kernel
theorem d_Na_shiftDown_27 : decode prog_6_method_19_code 27 = .ok (.lor, 1) := by decide +kernel
theorem d_Na_shiftDown_28 : decode prog_6_method_19_code 28 = .ok (.lstore_n 2, 1) := by decide +kernel
theorem d_Na_shiftDown_29 : decode prog_6_method_19_code 29 = .ok (.aload_n 0, 1) := by decide +kernel
theorem d_Na_shiftDown_30 : decode prog_6_method_19_code 30 = .ok (.getfield 9, 3) := by decide +kernel
theorem d_Na_shiftDown_33 : decode prog_6_method_19_code 33 = .ok (.iload 4, 2) := by decide +kernel
theorem d_Na_shiftDown_35 : decode prog_6_method_19_code 35 = .ok (.lload_n 2, 1) := by decide +kernel
theorem d_Na_shiftDown_36 : decode prog_6_method_19_code 36 = .ok (.iload_n 1, 1) := by decide +kernel
theorem d_Na_shiftDown_37 : decode prog_6_method_19_code 37 = .ok (.lshr, 1) := by decide +kernel
theorem d_Na_shiftDown_38 : decode prog_6_method_19_code 38 = .ok (.l2i, 1) := by decide +kernel
theorem d_Na_shiftDown_39 : decode prog_6_method_19_code 39 = .ok (.iastore, 1) := by decide +kernel
theorem d_Na_shiftDown_40 : decode prog_6_method_19_code 40 = .ok (.lload_n 2, 1) := by decide +kernel
theorem d_Na_shiftDown_41 : decode prog_6_method_19_code 41 = .ok (.lconst 1, 1) := by decide +kernel
theorem d_Na_shiftDown_42 : decode prog_6_method_19_code 42 = .ok (.iload_n 1, 1) := by decide +kernel
theorem d_Na_shiftDown_43 : decode prog_6_method_19_code 43 = .ok (.lshl, 1) := by decide +kernel
theorem d_Na_shiftDown_44 : decode prog_6_method_19_code 44 = .ok (.lconst 1, 1) := by decide +kernel
theorem d_Na_shiftDown_45 : decode prog_6_method_19_code 45 = .ok (.lsub, 1) := by decide +kernel
theorem d_Na_shiftDown_46 : decode prog_6_method_19_code 46 = .ok (.land, 1) := by decide +kernel
theorem d_Na_shiftDown_47 : decode prog_6_method_19_code 47 = .ok (.lstore_n 2, 1) := by decide +kernel
theorem d_Na_shiftDown_48 : decode prog_6_method_19_code 48 = .ok (.iinc 4 (-1), 3) := by decide +kernel
theorem d_Na_shiftDown_51 : decode prog_6_method_19_code 51 = .ok (.goto (-41), 3) := by decide +kernel
theorem d_Na_shiftDown_54 : decode prog_6_method_19_code 54 = .ok (.aload_n 0, 1) := by decide +kernel
theorem d_Na_shiftDown_55 : decode prog_6_method_19_code 55 = .ok (.invokevirtual 37, 3) := by decide +kernel
theorem d_Na_shiftDown_58 : decode prog_6_method_19_code 58 = .ok (.return_, 1) := by decide +kernel
section SEG
variable {g : GG} {Q : Option VV → EE → DD → Prop} {D : DD}
theorem s_Na_isZero_0 {a0 : Nat} (k_a0 : zk a0 = (0, 3, 0)) (h : ((¬ (D a0 1) = 0 → Q (some (vI 0)) zE D) ∧ ((D a0 1) = 0 → Q (some (vI 1)) zE D))) : Sg g M_Na_isZero Q 0 [vR a0] [] D := by
  unfold Sg
  refine q_aload_n d_Na_isZero_0 rfl ?_
  refine p_getI (k := 1) zc_Na l_Na_15 fi_Na_size d_Na_isZero_1 k_a0 ?_
  refine q_if_ne (tgt := 11) d_Na_isZero_4 (by decide) (fun c1 => ?_) (fun c1 => ?_)
  · have h := h.1 (c1)
    refine q_iconst d_Na_isZero_11 (by decide) ?_
    exact q_iret d_Na_isZero_12 (Or.inr ⟨rfl, by decide⟩) ⟨Nat.le_refl _, Nat.le_refl _⟩ h
  · have h := h.2 (c1)
    refine q_iconst d_Na_isZero_7 (by decide) ?_
    refine q_goto (tgt := 12) d_Na_isZero_8 (by decide) ?_
    exact q_iret d_Na_isZero_12 (Or.inr ⟨rfl, by decide⟩) ⟨Nat.le_refl _, Nat.le_refl _⟩ h
theorem s_Na_isOne_0 {a0 : Nat} (k_a0 : zk a0 = (0, 3, 0)) (h : ((¬ (D a0 1) = 1 → Q (some (vI 0)) zE D) ∧ ((D a0 1) = 1 → ((¬ (D (a0 + 1) 0) = 1 → Q (some (vI 0)) zE D) ∧ ((D (a0 + 1) 0) = 1 → Q (some (vI 1)) zE D))))) : Sg g M_Na_isOne Q 0 [vR a0] [] D := by
  unfold Sg
  refine q_aload_n d_Na_isOne_0 rfl ?_
  refine p_getI (k := 1) zc_Na l_Na_15 fi_Na_size d_Na_isOne_1 k_a0 ?_
  refine q_iconst d_Na_isOne_4 (by decide) ?_
  refine q_icmp_ne (tgt := 22) d_Na_isOne_5 (by decide) (fun c1 => ?_) (fun c1 => ?_)
  · have h := h.1 (c1)
    refine q_iconst d_Na_isOne_22 (by decide) ?_
    exact q_iret d_Na_isOne_23 (Or.inr ⟨rfl, by decide⟩) ⟨Nat.le_refl _, Nat.le_refl _⟩ h
  · have h := h.2 (c1)
    refine q_aload_n d_Na_isOne_8 rfl ?_
    refine p_getR (k := 0) (b := (a0 + 1)) zc_Na l_Na_9 fr_Na_digits d_Na_isOne_9 k_a0 rfl ?_
    refine q_iconst d_Na_isOne_12 (by decide) ?_
    refine p_iald d_Na_isOne_13 (zs_Na_digits k_a0) (by decide) ?_
    refine q_iconst d_Na_isOne_14 (by decide) ?_
    refine q_icmp_ne (tgt := 22) d_Na_isOne_15 (by decide) (fun c2 => ?_) (fun c2 => ?_)
    · have h := h.1 (c2)
      refine q_iconst d_Na_isOne_22 (by decide) ?_
      exact q_iret d_Na_isOne_23 (Or.inr ⟨rfl, by decide⟩) ⟨Nat.le_refl _, Nat.le_refl _⟩ h
    · have h := h.2 (c2)
      refine q_iconst d_Na_isOne_18 (by decide) ?_
      refine q_goto (tgt := 23) d_Na_isOne_19 (by decide) ?_
      exact q_iret d_Na_isOne_23 (Or.inr ⟨rfl, by decide⟩) ⟨Nat.le_refl _, Nat.le_refl _⟩ h
theorem s_Na_fitsLong_0 {a0 : Nat} (k_a0 : zk a0 = (0, 3, 0)) (h : ((2 < (D a0 1) → Q (some (vI 0)) zE D) ∧ (¬ 2 < (D a0 1) → Q (some (vI 1)) zE D))) : Sg g M_Na_fitsLong Q 0 [vR a0] [] D := by
  unfold Sg
  refine q_aload_n d_Na_fitsLong_0 rfl ?_
  refine p_getI (k := 1) zc_Na l_Na_15 fi_Na_size d_Na_fitsLong_1 k_a0 ?_
  refine q_iconst d_Na_fitsLong_4 (by decide) ?_
  refine q_icmp_gt (tgt := 12) d_Na_fitsLong_5 (by decide) (fun c1 => ?_) (fun c1 => ?_)
  · have h := h.1 (c1)
    refine q_iconst d_Na_fitsLong_12 (by decide) ?_
    exact q_iret d_Na_fitsLong_13 (Or.inr ⟨rfl, by decide⟩) ⟨Nat.le_refl _, Nat.le_refl _⟩ h
  · have h := h.2 (c1)
    refine q_iconst d_Na_fitsLong_8 (by decide) ?_
    refine q_goto (tgt := 13) d_Na_fitsLong_9 (by decide) ?_
    exact q_iret d_Na_fitsLong_13 (Or.inr ⟨rfl, by decide⟩) ⟨Nat.le_refl _, Nat.le_refl _⟩ h
theorem s_Na_asLong_0 {a0 : Nat} (k_a0 : zk a0 = (0, 3, 0)) (h : (((D a0 1) ≤ 0 → Sg g M_Na_asLong Q 18 [vR a0, vU, vU, vU, vU] [vL 0] D) ∧ (¬ (D a0 1) ≤ 0 → Sg g M_Na_asLong Q 18 [vR a0, vU, vU, vU, vU] [vL (D (a0 + 1) 0)] D))) : Sg g M_Na_asLong Q 0 [vR a0, vU, vU, vU, vU] [] D := by
  unfold Sg
  refine q_aload_n d_Na_asLong_0 rfl ?_
  refine p_getI (k := 1) zc_Na l_Na_15 fi_Na_size d_Na_asLong_1 k_a0 ?_
  refine q_if_le (tgt := 17) d_Na_asLong_4 (by decide) (fun c1 => ?_) (fun c1 => ?_)
  · have h := h.1 (c1)
    refine q_lconst (x := 0) d_Na_asLong_17 ⟨rfl, by decide⟩ ?_
    exact h
  · have h := h.2 (c1)
    refine q_aload_n d_Na_asLong_7 rfl ?_
    refine p_getR (k := 0) (b := (a0 + 1)) zc_Na l_Na_9 fr_Na_digits d_Na_asLong_8 k_a0 rfl ?_
    refine q_iconst d_Na_asLong_11 (by decide) ?_
    refine p_iald d_Na_asLong_12 (zs_Na_digits k_a0) (by decide) ?_
    refine q_i2l d_Na_asLong_13 ?_
    refine q_goto (tgt := 18) d_Na_asLong_14 (by decide) ?_
    exact h
theorem s_Na_asLong_18 {a0 : Nat} {z1 : VV} {z2 : VV} {z3 : VV} {z4 : VV} {y0 : Int} (k_a0 : zk a0 = (0, 3, 0)) (h : (((D a0 1) ≤ 1 → Sg g M_Na_asLong Q 38 [vR a0, vL y0, vU, vU, vU] [vL 0] D) ∧ (¬ (D a0 1) ≤ 1 → Sg g M_Na_asLong Q 38 [vR a0, vL y0, vU, vU, vU] [vL (D (a0 + 1) 1)] D))) : Sg g M_Na_asLong Q 18 [vR a0, z1, z2, z3, z4] [vL y0] D := by
  unfold Sg
  refine q_mask [false, true, true, true, true] (L' := [vR a0, vU, vU, vU, vU]) rfl ?_
  refine q_lstore_n d_Na_asLong_18 (by decide) (L' := [vR a0, vL y0, vU, vU, vU]) rfl ?_
  refine q_aload_n d_Na_asLong_19 rfl ?_
  refine p_getI (k := 1) zc_Na l_Na_15 fi_Na_size d_Na_asLong_20 k_a0 ?_
  refine q_iconst d_Na_asLong_23 (by decide) ?_
  refine q_icmp_le (tgt := 37) d_Na_asLong_24 (by decide) (fun c1 => ?_) (fun c1 => ?_)
  · have h := h.1 (c1)
    refine q_lconst (x := 0) d_Na_asLong_37 ⟨rfl, by decide⟩ ?_
    exact h
  · have h := h.2 (c1)
    refine q_aload_n d_Na_asLong_27 rfl ?_
    refine p_getR (k := 0) (b := (a0 + 1)) zc_Na l_Na_9 fr_Na_digits d_Na_asLong_28 k_a0 rfl ?_
    refine q_iconst d_Na_asLong_31 (by decide) ?_
    refine p_iald d_Na_asLong_32 (zs_Na_digits k_a0) (by decide) ?_
    refine q_i2l d_Na_asLong_33 ?_
    refine q_goto (tgt := 38) d_Na_asLong_34 (by decide) ?_
    exact h
theorem s_Na_asLong_38 {z0 : VV} {x1 : Int} {z3 : VV} {z4 : VV} {y0 : Int}  (h : (R64 (y0 * 2 ^ 31) ∧ (zdis (y0 * 2 ^ 31) x1 ∧ R64 ((y0 * 2 ^ 31) + x1))) ∧ Q (some (vL ((y0 * 2 ^ 31) + x1))) zE D) : Sg g M_Na_asLong Q 38 [z0, vL x1, vU, z3, z4] [vL y0] D := by
  unfold Sg
  refine q_mask [true, false, false, true, true] (L' := [vU, vL x1, vU, vU, vU]) rfl ?_
  obtain ⟨⟨o1, o2⟩, h⟩ := h
  refine q_lstore_n d_Na_asLong_38 (by decide) (L' := [vU, vL x1, vU, vL y0, vU]) rfl ?_
  refine q_lload_n d_Na_asLong_39 rfl ?_
  refine q_bipush d_Na_asLong_40 kb_31 ?_
  refine q_lshl d_Na_asLong_42 ⟨by decide, o1⟩ ?_
  refine q_lload_n d_Na_asLong_43 rfl ?_
  refine q_lor d_Na_asLong_44 o2 ?_
  exact q_lret d_Na_asLong_45 rfl ⟨Nat.le_refl _, Nat.le_refl _⟩ h
theorem s_Na_setSmall_0 {a0 : Nat} {x1 : Int} (k_a0 : zk a0 = (0, 3, 0)) (h : (∀ D1, D1 = zw D a0 1 0 → Sg g M_Na_setSmall Q 7 [vR a0, vL x1, vU, vL x1, vU] [] D1)) : Sg g M_Na_setSmall Q 0 [vR a0, vL x1, vU, vU, vU] [] D := by
  unfold Sg
  refine q_aload_n d_Na_setSmall_0 rfl ?_
  refine q_iconst d_Na_setSmall_1 (by decide) ?_
  refine p_putI (k := 1) zc_Na l_Na_15 fp_Na_size (Or.inl rfl) d_Na_setSmall_2 k_a0 (fun D1 e2 => ?_)
  have h := h D1 e2
  refine q_lload_n d_Na_setSmall_5 rfl ?_
  refine q_lstore_n d_Na_setSmall_6 (by decide) (L' := [vR a0, vL x1, vU, vL x1, vU]) rfl ?_
  exact h
theorem s_Na_setSmall_7 {a0 : Nat} {z1 : VV} {z2 : VV} {x3 : Int} (k_a0 : zk a0 = (0, 3, 0)) (h : ((x3 ≤ 0 → Q none zE D) ∧ (¬ x3 ≤ 0 → ((32 ≤ (D a0 1) → Q none zE D) ∧ (¬ 32 ≤ (D a0 1) → (R32 (x3 % 2 ^ 31) ∧ (0 ≤ D a0 1 ∧ D a0 1 < 32)) ∧ (∀ D5, D5 = zw D (a0 + 1) (D a0 1) (x3 % 2 ^ 31) → (R32 ((D5 a0 1) + 1)) ∧ (∀ D8, D8 = zw D5 a0 1 ((D5 a0 1) + 1) → Sg g M_Na_setSmall Q 7 [vR a0, vU, vU, vL (x3 / 2 ^ 31), vU] [] D8))))))) : Sg g M_Na_setSmall Q 7 [vR a0, z1, z2, vL x3, vU] [] D := by
  unfold Sg
  refine q_mask [false, true, true, false, false] (L' := [vR a0, vU, vU, vL x3, vU]) rfl ?_
  refine q_lload_n d_Na_setSmall_7 rfl ?_
  refine q_lconst (x := 0) d_Na_setSmall_8 ⟨rfl, by decide⟩ ?_
  refine q_lcmp d_Na_setSmall_9 ?_
  refine q_if_le (tgt := 55) d_Na_setSmall_10 (by decide) (fun c1 => ?_) (fun c1 => ?_)
  · have h := h.1 (zcmp_le.mp c1)
    exact q_vret d_Na_setSmall_55 rfl ⟨Nat.le_refl _, Nat.le_refl _⟩ h
  · have h := h.2 ((not_congr zcmp_le).mp c1)
    refine q_aload_n d_Na_setSmall_13 rfl ?_
    refine p_getI (k := 1) zc_Na l_Na_15 fi_Na_size d_Na_setSmall_14 k_a0 ?_
    refine q_bipush d_Na_setSmall_17 kb_32 ?_
    refine q_icmp_ge (tgt := 55) d_Na_setSmall_19 (by decide) (fun c2 => ?_) (fun c2 => ?_)
    · have h := h.1 (c2)
      exact q_vret d_Na_setSmall_55 rfl ⟨Nat.le_refl _, Nat.le_refl _⟩ h
    · have h := h.2 (c2)
      obtain ⟨⟨o3, o4⟩, h⟩ := h
      refine q_aload_n d_Na_setSmall_22 rfl ?_
      refine p_getR (k := 0) (b := (a0 + 1)) zc_Na l_Na_9 fr_Na_digits d_Na_setSmall_23 k_a0 rfl ?_
      refine q_aload_n d_Na_setSmall_26 rfl ?_
      refine p_getI (k := 1) zc_Na l_Na_15 fi_Na_size d_Na_setSmall_27 k_a0 ?_
      refine q_lload_n d_Na_setSmall_30 rfl ?_
      refine q_ldc2 (x := 2147483647) l_Na_19 d_Na_setSmall_31 (by decide) ?_
      refine q_land 31 d_Na_setSmall_34 ⟨by decide +kernel, by decide⟩ ?_
      refine q_l2i d_Na_setSmall_35 o3 ?_
      refine p_iast d_Na_setSmall_36 (zs_Na_digits k_a0) o4 (fun D5 e6 => ?_)
      have h := h D5 e6
      obtain ⟨o7, h⟩ := h
      refine q_aload_n d_Na_setSmall_37 rfl ?_
      refine q_dup d_Na_setSmall_38 rfl ?_
      refine p_getI (k := 1) zc_Na l_Na_15 fi_Na_size d_Na_setSmall_39 k_a0 ?_
      refine q_iconst d_Na_setSmall_42 (by decide) ?_
      refine q_iadd d_Na_setSmall_43 o7 ?_
      refine p_putI (k := 1) zc_Na l_Na_15 fp_Na_size (Or.inl rfl) d_Na_setSmall_44 k_a0 (fun D8 e9 => ?_)
      have h := h D8 e9
      refine q_lload_n d_Na_setSmall_47 rfl ?_
      refine q_bipush d_Na_setSmall_48 kb_31 ?_
      refine q_lshr d_Na_setSmall_50 (by decide) ?_
      refine q_lstore_n d_Na_setSmall_51 (by decide) (L' := [vR a0, vU, vU, vL (x3 / 2 ^ 31), vU]) rfl ?_
      refine q_goto (tgt := 7) d_Na_setSmall_52 (by decide) ?_
      exact h
theorem s_Na_copyFrom_0 {a0 : Nat} {a1 : Nat} (k_a0 : zk a0 = (0, 3, 0)) (k_a1 : zk a1 = (0, 3, 0)) (h : ((((0 : Int) ≤ 0 ∧ (0 : Int) ≤ 0 ∧ (0 : Int) ≤ D a1 1) ∧ 0 + (D a1 1) ≤ 32 ∧ 0 + (D a1 1) ≤ 32)) ∧ (∀ D2, D2 = zcp D (a1 + 1) (a0 + 1) 0 0 (D a1 1) → (∀ D4, D4 = zw D2 a0 1 (D2 a1 1) → Q none zE D4))) : Sg g M_Na_copyFrom Q 0 [vR a0, vR a1] [] D := by
  unfold Sg
  obtain ⟨o1, h⟩ := h
  refine q_aload_n d_Na_copyFrom_0 rfl ?_
  refine p_getR (k := 0) (b := (a1 + 1)) zc_Na l_Na_9 fr_Na_digits d_Na_copyFrom_1 k_a1 rfl ?_
  refine q_iconst d_Na_copyFrom_4 (by decide) ?_
  refine q_aload_n d_Na_copyFrom_5 rfl ?_
  refine p_getR (k := 0) (b := (a0 + 1)) zc_Na l_Na_9 fr_Na_digits d_Na_copyFrom_6 k_a0 rfl ?_
  refine q_iconst d_Na_copyFrom_9 (by decide) ?_
  refine q_aload_n d_Na_copyFrom_10 rfl ?_
  refine p_getI (k := 1) zc_Na l_Na_15 fi_Na_size d_Na_copyFrom_11 k_a1 ?_
  refine p_copy l_Na_21 d_Na_copyFrom_14 (zs_Na_digits k_a1) (zs_Na_digits k_a0) o1 rfl (fun D2 e3 => ?_)
  have h := h D2 e3
  refine q_aload_n d_Na_copyFrom_17 rfl ?_
  refine q_aload_n d_Na_copyFrom_18 rfl ?_
  refine p_getI (k := 1) zc_Na l_Na_15 fi_Na_size d_Na_copyFrom_19 k_a1 ?_
  refine p_putI (k := 1) zc_Na l_Na_15 fp_Na_size (Or.inl rfl) d_Na_copyFrom_22 k_a0 (fun D4 e5 => ?_)
  have h := h D4 e5
  exact q_vret d_Na_copyFrom_25 rfl ⟨Nat.le_refl _, Nat.le_refl _⟩ h
theorem s_Na_order_0 {a0 : Nat} {a1 : Nat} (k_a0 : zk a0 = (0, 3, 0)) (k_a1 : zk a1 = (0, 3, 0)) (h : (((D a0 1) = (D a1 1) → (R32 ((D a0 1) - 1)) ∧ Sg g M_Na_order Q 35 [vR a0, vR a1, vI ((D a0 1) - 1)] [] D) ∧ (¬ (D a0 1) = (D a1 1) → (((D a1 1) ≤ (D a0 1) → Q (some (vI 1)) zE D) ∧ (¬ (D a1 1) ≤ (D a0 1) → Q (some (vI (-1))) zE D))))) : Sg g M_Na_order Q 0 [vR a0, vR a1, vU] [] D := by
  unfold Sg
  refine q_aload_n d_Na_order_0 rfl ?_
  refine p_getI (k := 1) zc_Na l_Na_15 fi_Na_size d_Na_order_1 k_a0 ?_
  refine q_aload_n d_Na_order_4 rfl ?_
  refine p_getI (k := 1) zc_Na l_Na_15 fi_Na_size d_Na_order_5 k_a1 ?_
  refine q_icmp_eq (tgt := 28) d_Na_order_8 (by decide) (fun c1 => ?_) (fun c1 => ?_)
  · have h := h.1 (c1)
    obtain ⟨o2, h⟩ := h
    refine q_aload_n d_Na_order_28 rfl ?_
    refine p_getI (k := 1) zc_Na l_Na_15 fi_Na_size d_Na_order_29 k_a0 ?_
    refine q_iconst d_Na_order_32 (by decide) ?_
    refine q_isub d_Na_order_33 o2 ?_
    refine q_istore_n d_Na_order_34 (by decide) (L' := [vR a0, vR a1, vI ((D a0 1) - 1)]) rfl ?_
    exact h
  · have h := h.2 (c1)
    refine q_aload_n d_Na_order_11 rfl ?_
    refine p_getI (k := 1) zc_Na l_Na_15 fi_Na_size d_Na_order_12 k_a0 ?_
    refine q_aload_n d_Na_order_15 rfl ?_
    refine p_getI (k := 1) zc_Na l_Na_15 fi_Na_size d_Na_order_16 k_a1 ?_
    refine q_icmp_ge (tgt := 26) d_Na_order_19 (by decide) (fun c3 => ?_) (fun c3 => ?_)
    · have h := h.1 (c3)
      refine q_iconst d_Na_order_26 (by decide) ?_
      exact q_iret d_Na_order_27 (Or.inl rfl) ⟨Nat.le_refl _, Nat.le_refl _⟩ h
    · have h := h.2 (c3)
      refine q_iconst d_Na_order_22 (by decide) ?_
      refine q_goto (tgt := 27) d_Na_order_23 (by decide) ?_
      exact q_iret d_Na_order_27 (Or.inl rfl) ⟨Nat.le_refl _, Nat.le_refl _⟩ h
theorem s_Na_order_35 {a0 : Nat} {a1 : Nat} {x2 : Int} (k_a0 : zk a0 = (0, 3, 0)) (k_a1 : zk a1 = (0, 3, 0)) (h : ((x2 < 0 → Q (some (vI 0)) zE D) ∧ (¬ x2 < 0 → ((0 ≤ x2 ∧ x2 < 32) ∧ (0 ≤ x2 ∧ x2 < 32)) ∧ (((D (a0 + 1) x2) = (D (a1 + 1) x2) → (R32 (x2 + (-1))) ∧ Sg g M_Na_order Q 35 [vR a0, vR a1, vI (x2 + (-1))] [] D) ∧ (¬ (D (a0 + 1) x2) = (D (a1 + 1) x2) → ((0 ≤ x2 ∧ x2 < 32) ∧ (0 ≤ x2 ∧ x2 < 32)) ∧ (((D (a1 + 1) x2) ≤ (D (a0 + 1) x2) → Q (some (vI 1)) zE D) ∧ (¬ (D (a1 + 1) x2) ≤ (D (a0 + 1) x2) → Q (some (vI (-1))) zE D))))))) : Sg g M_Na_order Q 35 [vR a0, vR a1, vI x2] [] D := by
  unfold Sg
  refine q_iload_n d_Na_order_35 rfl ?_
  refine q_if_lt (tgt := 81) d_Na_order_36 (by decide) (fun c1 => ?_) (fun c1 => ?_)
  · have h := h.1 (c1)
    refine q_iconst d_Na_order_81 (by decide) ?_
    exact q_iret d_Na_order_82 (Or.inl rfl) ⟨Nat.le_refl _, Nat.le_refl _⟩ h
  · have h := h.2 (c1)
    obtain ⟨⟨o2, o3⟩, h⟩ := h
    refine q_aload_n d_Na_order_39 rfl ?_
    refine p_getR (k := 0) (b := (a0 + 1)) zc_Na l_Na_9 fr_Na_digits d_Na_order_40 k_a0 rfl ?_
    refine q_iload_n d_Na_order_43 rfl ?_
    refine p_iald d_Na_order_44 (zs_Na_digits k_a0) o2 ?_
    refine q_aload_n d_Na_order_45 rfl ?_
    refine p_getR (k := 0) (b := (a1 + 1)) zc_Na l_Na_9 fr_Na_digits d_Na_order_46 k_a1 rfl ?_
    refine q_iload_n d_Na_order_49 rfl ?_
    refine p_iald d_Na_order_50 (zs_Na_digits k_a1) o3 ?_
    refine q_icmp_eq (tgt := 75) d_Na_order_51 (by decide) (fun c4 => ?_) (fun c4 => ?_)
    · have h := h.1 (c4)
      obtain ⟨o5, h⟩ := h
      refine q_iinc d_Na_order_75 rfl (by decide) o5 (L' := [vR a0, vR a1, vI (x2 + (-1))]) rfl ?_
      refine q_goto (tgt := 35) d_Na_order_78 (by decide) ?_
      exact h
    · have h := h.2 (c4)
      obtain ⟨⟨o6, o7⟩, h⟩ := h
      refine q_aload_n d_Na_order_54 rfl ?_
      refine p_getR (k := 0) (b := (a0 + 1)) zc_Na l_Na_9 fr_Na_digits d_Na_order_55 k_a0 rfl ?_
      refine q_iload_n d_Na_order_58 rfl ?_
      refine p_iald d_Na_order_59 (zs_Na_digits k_a0) o6 ?_
      refine q_aload_n d_Na_order_60 rfl ?_
      refine p_getR (k := 0) (b := (a1 + 1)) zc_Na l_Na_9 fr_Na_digits d_Na_order_61 k_a1 rfl ?_
      refine q_iload_n d_Na_order_64 rfl ?_
      refine p_iald d_Na_order_65 (zs_Na_digits k_a1) o7 ?_
      refine q_icmp_ge (tgt := 73) d_Na_order_66 (by decide) (fun c8 => ?_) (fun c8 => ?_)
      · have h := h.1 (c8)
        refine q_iconst d_Na_order_73 (by decide) ?_
        exact q_iret d_Na_order_74 (Or.inl rfl) ⟨Nat.le_refl _, Nat.le_refl _⟩ h
      · have h := h.2 (c8)
        refine q_iconst d_Na_order_69 (by decide) ?_
        refine q_goto (tgt := 74) d_Na_order_70 (by decide) ?_
        exact q_iret d_Na_order_74 (Or.inl rfl) ⟨Nat.le_refl _, Nat.le_refl _⟩ h
theorem s_Na_push_0 {a0 : Nat} {x1 : Int} (k_a0 : zk a0 = (0, 3, 0)) (h : ((x1 ≤ 0 → Q none zE D) ∧ (¬ x1 ≤ 0 → ((32 ≤ (D a0 1) → Q none zE D) ∧ (¬ 32 ≤ (D a0 1) → (R32 x1 ∧ (0 ≤ D a0 1 ∧ D a0 1 < 32)) ∧ (∀ D5, D5 = zw D (a0 + 1) (D a0 1) x1 → (R32 ((D5 a0 1) + 1)) ∧ (∀ D8, D8 = zw D5 a0 1 ((D5 a0 1) + 1) → Q none zE D8))))))) : Sg g M_Na_push Q 0 [vR a0, vL x1, vU] [] D := by
  unfold Sg
  refine q_lload_n d_Na_push_0 rfl ?_
  refine q_lconst (x := 0) d_Na_push_1 ⟨rfl, by decide⟩ ?_
  refine q_lcmp d_Na_push_2 ?_
  refine q_if_le (tgt := 36) d_Na_push_3 (by decide) (fun c1 => ?_) (fun c1 => ?_)
  · have h := h.1 (zcmp_le.mp c1)
    exact q_vret d_Na_push_36 rfl ⟨Nat.le_refl _, Nat.le_refl _⟩ h
  · have h := h.2 ((not_congr zcmp_le).mp c1)
    refine q_aload_n d_Na_push_6 rfl ?_
    refine p_getI (k := 1) zc_Na l_Na_15 fi_Na_size d_Na_push_7 k_a0 ?_
    refine q_bipush d_Na_push_10 kb_32 ?_
    refine q_icmp_ge (tgt := 36) d_Na_push_12 (by decide) (fun c2 => ?_) (fun c2 => ?_)
    · have h := h.1 (c2)
      exact q_vret d_Na_push_36 rfl ⟨Nat.le_refl _, Nat.le_refl _⟩ h
    · have h := h.2 (c2)
      obtain ⟨⟨o3, o4⟩, h⟩ := h
      refine q_aload_n d_Na_push_15 rfl ?_
      refine p_getR (k := 0) (b := (a0 + 1)) zc_Na l_Na_9 fr_Na_digits d_Na_push_16 k_a0 rfl ?_
      refine q_aload_n d_Na_push_19 rfl ?_
      refine p_getI (k := 1) zc_Na l_Na_15 fi_Na_size d_Na_push_20 k_a0 ?_
      refine q_lload_n d_Na_push_23 rfl ?_
      refine q_l2i d_Na_push_24 o3 ?_
      refine p_iast d_Na_push_25 (zs_Na_digits k_a0) o4 (fun D5 e6 => ?_)
      have h := h D5 e6
      obtain ⟨o7, h⟩ := h
      refine q_aload_n d_Na_push_26 rfl ?_
      refine q_dup d_Na_push_27 rfl ?_
      refine p_getI (k := 1) zc_Na l_Na_15 fi_Na_size d_Na_push_28 k_a0 ?_
      refine q_iconst d_Na_push_31 (by decide) ?_
      refine q_iadd d_Na_push_32 o7 ?_
      refine p_putI (k := 1) zc_Na l_Na_15 fp_Na_size (Or.inl rfl) d_Na_push_33 k_a0 (fun D8 e9 => ?_)
      have h := h D8 e9
      exact q_vret d_Na_push_36 rfl ⟨Nat.le_refl _, Nat.le_refl _⟩ h
theorem s_Na_trim_0 {a0 : Nat} (k_a0 : zk a0 = (0, 3, 0)) (h : (((D a0 1) ≤ 0 → Q none zE D) ∧ (¬ (D a0 1) ≤ 0 → (R32 ((D a0 1) - 1) ∧ (0 ≤ (D a0 1) - 1 ∧ (D a0 1) - 1 < 32)) ∧ ((¬ (D (a0 + 1) ((D a0 1) - 1)) = 0 → Q none zE D) ∧ ((D (a0 + 1) ((D a0 1) - 1)) = 0 → (R32 ((D a0 1) - 1)) ∧ (∀ D6, D6 = zw D a0 1 ((D a0 1) - 1) → Sg g M_Na_trim Q 0 [vR a0] [] D6)))))) : Sg g M_Na_trim Q 0 [vR a0] [] D := by
  unfold Sg
  refine q_aload_n d_Na_trim_0 rfl ?_
  refine p_getI (k := 1) zc_Na l_Na_15 fi_Na_size d_Na_trim_1 k_a0 ?_
  refine q_if_le (tgt := 34) d_Na_trim_4 (by decide) (fun c1 => ?_) (fun c1 => ?_)
  · have h := h.1 (c1)
    exact q_vret d_Na_trim_34 rfl ⟨Nat.le_refl _, Nat.le_refl _⟩ h
  · have h := h.2 (c1)
    obtain ⟨⟨o2, o3⟩, h⟩ := h
    refine q_aload_n d_Na_trim_7 rfl ?_
    refine p_getR (k := 0) (b := (a0 + 1)) zc_Na l_Na_9 fr_Na_digits d_Na_trim_8 k_a0 rfl ?_
    refine q_aload_n d_Na_trim_11 rfl ?_
    refine p_getI (k := 1) zc_Na l_Na_15 fi_Na_size d_Na_trim_12 k_a0 ?_
    refine q_iconst d_Na_trim_15 (by decide) ?_
    refine q_isub d_Na_trim_16 o2 ?_
    refine p_iald d_Na_trim_17 (zs_Na_digits k_a0) o3 ?_
    refine q_if_ne (tgt := 34) d_Na_trim_18 (by decide) (fun c4 => ?_) (fun c4 => ?_)
    · have h := h.1 (c4)
      exact q_vret d_Na_trim_34 rfl ⟨Nat.le_refl _, Nat.le_refl _⟩ h
    · have h := h.2 (c4)
      obtain ⟨o5, h⟩ := h
      refine q_aload_n d_Na_trim_21 rfl ?_
      refine q_dup d_Na_trim_22 rfl ?_
      refine p_getI (k := 1) zc_Na l_Na_15 fi_Na_size d_Na_trim_23 k_a0 ?_
      refine q_iconst d_Na_trim_26 (by decide) ?_
      refine q_isub d_Na_trim_27 o5 ?_
      refine p_putI (k := 1) zc_Na l_Na_15 fp_Na_size (Or.inl rfl) d_Na_trim_28 k_a0 (fun D6 e7 => ?_)
      have h := h D6 e7
      refine q_goto (tgt := 0) d_Na_trim_31 (by decide) ?_
      exact h
theorem s_Na_add_0 {a0 : Nat} {a1 : Nat} (k_a0 : zk a0 = (0, 3, 0)) (k_a1 : zk a1 = (0, 3, 0)) (h : Sg g M_Na_add Q 17 [vR a0, vR a1, vI (max (D a0 1) (D a1 1)), vL 0, vU, vI 0, vU, vU, vU, vU] [] D) : Sg g M_Na_add Q 0 [vR a0, vR a1, vU, vU, vU, vU, vU, vU, vU, vU] [] D := by
  unfold Sg
  refine q_aload_n d_Na_add_0 rfl ?_
  refine p_getI (k := 1) zc_Na l_Na_15 fi_Na_size d_Na_add_1 k_a0 ?_
  refine q_aload_n d_Na_add_4 rfl ?_
  refine p_getI (k := 1) zc_Na l_Na_15 fi_Na_size d_Na_add_5 k_a1 ?_
  refine p_max l_Na_27 d_Na_add_8 rfl ?_
  refine q_istore_n d_Na_add_11 (by decide) (L' := [vR a0, vR a1, vI (max (D a0 1) (D a1 1)), vU, vU, vU, vU, vU, vU, vU]) rfl ?_
  refine q_lconst (x := 0) d_Na_add_12 ⟨rfl, by decide⟩ ?_
  refine q_lstore_n d_Na_add_13 (by decide) (L' := [vR a0, vR a1, vI (max (D a0 1) (D a1 1)), vL 0, vU, vU, vU, vU, vU, vU]) rfl ?_
  refine q_iconst d_Na_add_14 (by decide) ?_
  refine q_istore d_Na_add_15 (by decide) (L' := [vR a0, vR a1, vI (max (D a0 1) (D a1 1)), vL 0, vU, vI 0, vU, vU, vU, vU]) rfl ?_
  exact h
theorem s_Na_add_17 {a0 : Nat} {a1 : Nat} {x2 : Int} {x3 : Int} {x5 : Int} {z6 : VV} {z7 : VV} {z8 : VV} {z9 : VV} (k_a0 : zk a0 = (0, 3, 0)) (k_a1 : zk a1 = (0, 3, 0)) (h : ((x2 ≤ x5 → (∀ D2, D2 = zw D a0 1 x2 → CV g M_Na_push [vR a0, vL x3] D2 (fun D' => Sg g M_Na_add Q 111 [vR a0, vR a1, vI x2, vL x3, vU, vI x5, vU, vU, vU, vU] [] D'))) ∧ (¬ x2 ≤ x5 → (((D a0 1) ≤ x5 → Sg g M_Na_add Q 44 [vR a0, vR a1, vI x2, vL x3, vU, vI x5, vU, vU, vU, vU] [vL 0] D) ∧ (¬ (D a0 1) ≤ x5 → ((0 ≤ x5 ∧ x5 < 32)) ∧ Sg g M_Na_add Q 44 [vR a0, vR a1, vI x2, vL x3, vU, vI x5, vU, vU, vU, vU] [vL (D (a0 + 1) x5)] D))))) : Sg g M_Na_add Q 17 [vR a0, vR a1, vI x2, vL x3, vU, vI x5, z6, z7, z8, z9] [] D := by
  unfold Sg
  refine q_mask [false, false, false, false, false, false, true, true, true, true] (L' := [vR a0, vR a1, vI x2, vL x3, vU, vI x5, vU, vU, vU, vU]) rfl ?_
  refine q_iload d_Na_add_17 rfl ?_
  refine q_iload_n d_Na_add_19 rfl ?_
  refine q_icmp_ge (tgt := 101) d_Na_add_20 (by decide) (fun c1 => ?_) (fun c1 => ?_)
  · have h := h.1 (c1)
    refine q_aload_n d_Na_add_101 rfl ?_
    refine q_iload_n d_Na_add_102 rfl ?_
    refine p_putI (k := 1) zc_Na l_Na_15 fp_Na_size (Or.inl rfl) d_Na_add_103 k_a0 (fun D2 e3 => ?_)
    have h := h D2 e3
    refine q_aload_n d_Na_add_106 rfl ?_
    refine q_lload_n d_Na_add_107 rfl ?_
    refine p_callV (as := [vL x3]) (st := []) (a := a0) mc_Na_push mv_Na_push l_Na_33 zc_Na rfl d_Na_add_108 rfl rfl rfl k_a0 (CV.to ?_)
    exact h
  · have h := h.2 (c1)
    refine q_iload d_Na_add_23 rfl ?_
    refine q_aload_n d_Na_add_25 rfl ?_
    refine p_getI (k := 1) zc_Na l_Na_15 fi_Na_size d_Na_add_26 k_a0 ?_
    refine q_icmp_ge (tgt := 43) d_Na_add_29 (by decide) (fun c5 => ?_) (fun c5 => ?_)
    · have h := h.1 (c5)
      refine q_lconst (x := 0) d_Na_add_43 ⟨rfl, by decide⟩ ?_
      exact h
    · have h := h.2 (c5)
      obtain ⟨o6, h⟩ := h
      refine q_aload_n d_Na_add_32 rfl ?_
      refine p_getR (k := 0) (b := (a0 + 1)) zc_Na l_Na_9 fr_Na_digits d_Na_add_33 k_a0 rfl ?_
      refine q_iload d_Na_add_36 rfl ?_
      refine p_iald d_Na_add_38 (zs_Na_digits k_a0) o6 ?_
      refine q_i2l d_Na_add_39 ?_
      refine q_goto (tgt := 44) d_Na_add_40 (by decide) ?_
      exact h
theorem s_Na_add_111 {z0 : VV} {z1 : VV} {z2 : VV} {z3 : VV} {z4 : VV} {z5 : VV} {z6 : VV} {z7 : VV} {z8 : VV} {z9 : VV}  (h : Q none zE D) : Sg g M_Na_add Q 111 [z0, z1, z2, z3, z4, z5, z6, z7, z8, z9] [] D := by
  unfold Sg
  refine q_mask [true, true, true, true, true, true, true, true, true, true] (L' := [vU, vU, vU, vU, vU, vU, vU, vU, vU, vU]) rfl ?_
  exact q_vret d_Na_add_111 rfl ⟨Nat.le_refl _, Nat.le_refl _⟩ h
theorem s_Na_add_44 {a0 : Nat} {a1 : Nat} {x2 : Int} {x3 : Int} {x5 : Int} {z6 : VV} {z7 : VV} {z8 : VV} {z9 : VV} {y0 : Int} (k_a0 : zk a0 = (0, 3, 0)) (k_a1 : zk a1 = (0, 3, 0)) (h : (((D a1 1) ≤ x5 → Sg g M_Na_add Q 67 [vR a0, vR a1, vI x2, vL x3, vU, vI x5, vL y0, vU, vU, vU] [vL 0] D) ∧ (¬ (D a1 1) ≤ x5 → ((0 ≤ x5 ∧ x5 < 32)) ∧ Sg g M_Na_add Q 67 [vR a0, vR a1, vI x2, vL x3, vU, vI x5, vL y0, vU, vU, vU] [vL (D (a1 + 1) x5)] D))) : Sg g M_Na_add Q 44 [vR a0, vR a1, vI x2, vL x3, vU, vI x5, z6, z7, z8, z9] [vL y0] D := by
  unfold Sg
  refine q_mask [false, false, false, false, false, false, true, true, true, true] (L' := [vR a0, vR a1, vI x2, vL x3, vU, vI x5, vU, vU, vU, vU]) rfl ?_
  refine q_lstore d_Na_add_44 (by decide) (L' := [vR a0, vR a1, vI x2, vL x3, vU, vI x5, vL y0, vU, vU, vU]) rfl ?_
  refine q_iload d_Na_add_46 rfl ?_
  refine q_aload_n d_Na_add_48 rfl ?_
  refine p_getI (k := 1) zc_Na l_Na_15 fi_Na_size d_Na_add_49 k_a1 ?_
  refine q_icmp_ge (tgt := 66) d_Na_add_52 (by decide) (fun c1 => ?_) (fun c1 => ?_)
  · have h := h.1 (c1)
    refine q_lconst (x := 0) d_Na_add_66 ⟨rfl, by decide⟩ ?_
    exact h
  · have h := h.2 (c1)
    obtain ⟨o2, h⟩ := h
    refine q_aload_n d_Na_add_55 rfl ?_
    refine p_getR (k := 0) (b := (a1 + 1)) zc_Na l_Na_9 fr_Na_digits d_Na_add_56 k_a1 rfl ?_
    refine q_iload d_Na_add_59 rfl ?_
    refine p_iald d_Na_add_61 (zs_Na_digits k_a1) o2 ?_
    refine q_i2l d_Na_add_62 ?_
    refine q_goto (tgt := 67) d_Na_add_63 (by decide) ?_
    exact h
theorem s_Na_add_67 {a0 : Nat} {a1 : Nat} {x2 : Int} {x3 : Int} {x5 : Int} {x6 : Int} {z8 : VV} {z9 : VV} {y0 : Int} (k_a0 : zk a0 = (0, 3, 0)) (k_a1 : zk a1 = (0, 3, 0)) (h : (R64 (x6 + y0) ∧ R64 (x3 + (x6 + y0)) ∧ R32 ((x3 + (x6 + y0)) % 2 ^ 31) ∧ (0 ≤ x5 ∧ x5 < 32)) ∧ (∀ D5, D5 = zw D (a0 + 1) x5 ((x3 + (x6 + y0)) % 2 ^ 31) → (R32 (x5 + 1)) ∧ Sg g M_Na_add Q 17 [vR a0, vR a1, vI x2, vL ((x3 + (x6 + y0)) / 2 ^ 31), vU, vI (x5 + 1), vL x6, vU, vL y0, vU] [] D5)) : Sg g M_Na_add Q 67 [vR a0, vR a1, vI x2, vL x3, vU, vI x5, vL x6, vU, z8, z9] [vL y0] D := by
  unfold Sg
  refine q_mask [false, false, false, false, false, false, false, false, true, true] (L' := [vR a0, vR a1, vI x2, vL x3, vU, vI x5, vL x6, vU, vU, vU]) rfl ?_
  obtain ⟨⟨o1, o2, o3, o4⟩, h⟩ := h
  refine q_lstore d_Na_add_67 (by decide) (L' := [vR a0, vR a1, vI x2, vL x3, vU, vI x5, vL x6, vU, vL y0, vU]) rfl ?_
  refine q_lload_n d_Na_add_69 rfl ?_
  refine q_lload d_Na_add_70 rfl ?_
  refine q_lload d_Na_add_72 rfl ?_
  refine q_ladd d_Na_add_74 o1 ?_
  refine q_ladd d_Na_add_75 o2 ?_
  refine q_lstore_n d_Na_add_76 (by decide) (L' := [vR a0, vR a1, vI x2, vL (x3 + (x6 + y0)), vU, vI x5, vL x6, vU, vL y0, vU]) rfl ?_
  refine q_aload_n d_Na_add_77 rfl ?_
  refine p_getR (k := 0) (b := (a0 + 1)) zc_Na l_Na_9 fr_Na_digits d_Na_add_78 k_a0 rfl ?_
  refine q_iload d_Na_add_81 rfl ?_
  refine q_lload_n d_Na_add_83 rfl ?_
  refine q_ldc2 (x := 2147483647) l_Na_19 d_Na_add_84 (by decide) ?_
  refine q_land 31 d_Na_add_87 ⟨by decide +kernel, by decide⟩ ?_
  refine q_l2i d_Na_add_88 o3 ?_
  refine p_iast d_Na_add_89 (zs_Na_digits k_a0) o4 (fun D5 e6 => ?_)
  have h := h D5 e6
  obtain ⟨o7, h⟩ := h
  refine q_lload_n d_Na_add_90 rfl ?_
  refine q_bipush d_Na_add_91 kb_31 ?_
  refine q_lshr d_Na_add_93 (by decide) ?_
  refine q_lstore_n d_Na_add_94 (by decide) (L' := [vR a0, vR a1, vI x2, vL ((x3 + (x6 + y0)) / 2 ^ 31), vU, vI x5, vL x6, vU, vL y0, vU]) rfl ?_
  refine q_iinc d_Na_add_95 rfl (by decide) o7 (L' := [vR a0, vR a1, vI x2, vL ((x3 + (x6 + y0)) / 2 ^ 31), vU, vI (x5 + 1), vL x6, vU, vL y0, vU]) rfl ?_
  refine q_goto (tgt := 17) d_Na_add_98 (by decide) ?_
  exact h
theorem s_Na_takeOff_0 {a0 : Nat} {a1 : Nat} (k_a0 : zk a0 = (0, 3, 0)) (k_a1 : zk a1 = (0, 3, 0)) (h : Sg g M_Na_takeOff Q 5 [vR a0, vR a1, vL 0, vU, vI 0, vU, vU, vU, vU] [] D) : Sg g M_Na_takeOff Q 0 [vR a0, vR a1, vU, vU, vU, vU, vU, vU, vU] [] D := by
  unfold Sg
  refine q_lconst (x := 0) d_Na_takeOff_0 ⟨rfl, by decide⟩ ?_
  refine q_lstore_n d_Na_takeOff_1 (by decide) (L' := [vR a0, vR a1, vL 0, vU, vU, vU, vU, vU, vU]) rfl ?_
  refine q_iconst d_Na_takeOff_2 (by decide) ?_
  refine q_istore d_Na_takeOff_3 (by decide) (L' := [vR a0, vR a1, vL 0, vU, vI 0, vU, vU, vU, vU]) rfl ?_
  exact h
theorem s_Na_takeOff_5 {a0 : Nat} {a1 : Nat} {x2 : Int} {x4 : Int} {z5 : VV} {z6 : VV} {z7 : VV} {z8 : VV} (k_a0 : zk a0 = (0, 3, 0)) (k_a1 : zk a1 = (0, 3, 0)) (h : (((D a0 1) ≤ x4 → CV g M_Na_trim [vR a0] D (fun D' => Sg g M_Na_takeOff Q 89 [vR a0, vR a1, vL x2, vU, vI x4, vU, vU, vU, vU] [] D')) ∧ (¬ (D a0 1) ≤ x4 → (((D a1 1) ≤ x4 → Sg g M_Na_takeOff Q 35 [vR a0, vR a1, vL x2, vU, vI x4, vU, vU, vU, vU] [vL 0] D) ∧ (¬ (D a1 1) ≤ x4 → ((0 ≤ x4 ∧ x4 < 32)) ∧ Sg g M_Na_takeOff Q 35 [vR a0, vR a1, vL x2, vU, vI x4, vU, vU, vU, vU] [vL (D (a1 + 1) x4)] D))))) : Sg g M_Na_takeOff Q 5 [vR a0, vR a1, vL x2, vU, vI x4, z5, z6, z7, z8] [] D := by
  unfold Sg
  refine q_mask [false, false, false, false, false, true, true, true, true] (L' := [vR a0, vR a1, vL x2, vU, vI x4, vU, vU, vU, vU]) rfl ?_
  refine q_iload d_Na_takeOff_5 rfl ?_
  refine q_aload_n d_Na_takeOff_7 rfl ?_
  refine p_getI (k := 1) zc_Na l_Na_15 fi_Na_size d_Na_takeOff_8 k_a0 ?_
  refine q_icmp_ge (tgt := 85) d_Na_takeOff_11 (by decide) (fun c1 => ?_) (fun c1 => ?_)
  · have h := h.1 (c1)
    refine q_aload_n d_Na_takeOff_85 rfl ?_
    refine p_callV (as := []) (st := []) (a := a0) mc_Na_trim mv_Na_trim l_Na_37 zc_Na rfl d_Na_takeOff_86 rfl rfl rfl k_a0 (CV.to ?_)
    exact h
  · have h := h.2 (c1)
    refine q_iload d_Na_takeOff_14 rfl ?_
    refine q_aload_n d_Na_takeOff_16 rfl ?_
    refine p_getI (k := 1) zc_Na l_Na_15 fi_Na_size d_Na_takeOff_17 k_a1 ?_
    refine q_icmp_ge (tgt := 34) d_Na_takeOff_20 (by decide) (fun c3 => ?_) (fun c3 => ?_)
    · have h := h.1 (c3)
      refine q_lconst (x := 0) d_Na_takeOff_34 ⟨rfl, by decide⟩ ?_
      exact h
    · have h := h.2 (c3)
      obtain ⟨o4, h⟩ := h
      refine q_aload_n d_Na_takeOff_23 rfl ?_
      refine p_getR (k := 0) (b := (a1 + 1)) zc_Na l_Na_9 fr_Na_digits d_Na_takeOff_24 k_a1 rfl ?_
      refine q_iload d_Na_takeOff_27 rfl ?_
      refine p_iald d_Na_takeOff_29 (zs_Na_digits k_a1) o4 ?_
      refine q_i2l d_Na_takeOff_30 ?_
      refine q_goto (tgt := 35) d_Na_takeOff_31 (by decide) ?_
      exact h
theorem s_Na_takeOff_89 {z0 : VV} {z1 : VV} {z2 : VV} {z3 : VV} {z4 : VV} {z5 : VV} {z6 : VV} {z7 : VV} {z8 : VV}  (h : Q none zE D) : Sg g M_Na_takeOff Q 89 [z0, z1, z2, z3, z4, z5, z6, z7, z8] [] D := by
  unfold Sg
  refine q_mask [true, true, true, true, true, true, true, true, true] (L' := [vU, vU, vU, vU, vU, vU, vU, vU, vU]) rfl ?_
  exact q_vret d_Na_takeOff_89 rfl ⟨Nat.le_refl _, Nat.le_refl _⟩ h
theorem s_Na_takeOff_35 {a0 : Nat} {a1 : Nat} {x2 : Int} {x4 : Int} {z5 : VV} {z6 : VV} {z7 : VV} {z8 : VV} {y0 : Int} (k_a0 : zk a0 = (0, 3, 0)) (k_a1 : zk a1 = (0, 3, 0)) (h : ((0 ≤ x4 ∧ x4 < 32) ∧ R64 ((D (a0 + 1) x4) - y0) ∧ R64 (((D (a0 + 1) x4) - y0) - x2)) ∧ ((0 ≤ (((D (a0 + 1) x4) - y0) - x2) → Sg g M_Na_takeOff Q 64 [vR a0, vR a1, vL x2, vU, vI x4, vL y0, vU, vL (((D (a0 + 1) x4) - y0) - x2), vU] [vL 0] D) ∧ (¬ 0 ≤ (((D (a0 + 1) x4) - y0) - x2) → Sg g M_Na_takeOff Q 64 [vR a0, vR a1, vL x2, vU, vI x4, vL y0, vU, vL (((D (a0 + 1) x4) - y0) - x2), vU] [vL 1] D))) : Sg g M_Na_takeOff Q 35 [vR a0, vR a1, vL x2, vU, vI x4, z5, z6, z7, z8] [vL y0] D := by
  unfold Sg
  refine q_mask [false, false, false, false, false, true, true, true, true] (L' := [vR a0, vR a1, vL x2, vU, vI x4, vU, vU, vU, vU]) rfl ?_
  obtain ⟨⟨o1, o2, o3⟩, h⟩ := h
  refine q_lstore d_Na_takeOff_35 (by decide) (L' := [vR a0, vR a1, vL x2, vU, vI x4, vL y0, vU, vU, vU]) rfl ?_
  refine q_aload_n d_Na_takeOff_37 rfl ?_
  refine p_getR (k := 0) (b := (a0 + 1)) zc_Na l_Na_9 fr_Na_digits d_Na_takeOff_38 k_a0 rfl ?_
  refine q_iload d_Na_takeOff_41 rfl ?_
  refine p_iald d_Na_takeOff_43 (zs_Na_digits k_a0) o1 ?_
  refine q_i2l d_Na_takeOff_44 ?_
  refine q_lload d_Na_takeOff_45 rfl ?_
  refine q_lsub d_Na_takeOff_47 o2 ?_
  refine q_lload_n d_Na_takeOff_48 rfl ?_
  refine q_lsub d_Na_takeOff_49 o3 ?_
  refine q_lstore d_Na_takeOff_50 (by decide) (L' := [vR a0, vR a1, vL x2, vU, vI x4, vL y0, vU, vL (((D (a0 + 1) x4) - y0) - x2), vU]) rfl ?_
  refine q_lload d_Na_takeOff_52 rfl ?_
  refine q_lconst (x := 0) d_Na_takeOff_54 ⟨rfl, by decide⟩ ?_
  refine q_lcmp d_Na_takeOff_55 ?_
  refine q_if_ge (tgt := 63) d_Na_takeOff_56 (by decide) (fun c4 => ?_) (fun c4 => ?_)
  · have h := h.1 (zcmp_ge.mp c4)
    refine q_lconst (x := 0) d_Na_takeOff_63 ⟨rfl, by decide⟩ ?_
    exact h
  · have h := h.2 ((not_congr zcmp_ge).mp c4)
    refine q_lconst (x := 1) d_Na_takeOff_59 ⟨rfl, by decide⟩ ?_
    refine q_goto (tgt := 64) d_Na_takeOff_60 (by decide) ?_
    exact h
theorem s_Na_takeOff_64 {a0 : Nat} {a1 : Nat} {z2 : VV} {z3 : VV} {x4 : Int} {z5 : VV} {z6 : VV} {x7 : Int} {y0 : Int} (k_a0 : zk a0 = (0, 3, 0)) (k_a1 : zk a1 = (0, 3, 0)) (h : (R32 (x7 % 2 ^ 31) ∧ (0 ≤ x4 ∧ x4 < 32)) ∧ (∀ D3, D3 = zw D (a0 + 1) x4 (x7 % 2 ^ 31) → (R32 (x4 + 1)) ∧ Sg g M_Na_takeOff Q 5 [vR a0, vR a1, vL y0, vU, vI (x4 + 1), vU, vU, vL x7, vU] [] D3)) : Sg g M_Na_takeOff Q 64 [vR a0, vR a1, z2, z3, vI x4, z5, z6, vL x7, vU] [vL y0] D := by
  unfold Sg
  refine q_mask [false, false, true, true, false, true, true, false, false] (L' := [vR a0, vR a1, vU, vU, vI x4, vU, vU, vL x7, vU]) rfl ?_
  obtain ⟨⟨o1, o2⟩, h⟩ := h
  refine q_lstore_n d_Na_takeOff_64 (by decide) (L' := [vR a0, vR a1, vL y0, vU, vI x4, vU, vU, vL x7, vU]) rfl ?_
  refine q_aload_n d_Na_takeOff_65 rfl ?_
  refine p_getR (k := 0) (b := (a0 + 1)) zc_Na l_Na_9 fr_Na_digits d_Na_takeOff_66 k_a0 rfl ?_
  refine q_iload d_Na_takeOff_69 rfl ?_
  refine q_lload d_Na_takeOff_71 rfl ?_
  refine q_ldc2 (x := 2147483647) l_Na_19 d_Na_takeOff_73 (by decide) ?_
  refine q_land 31 d_Na_takeOff_76 ⟨by decide +kernel, by decide⟩ ?_
  refine q_l2i d_Na_takeOff_77 o1 ?_
  refine p_iast d_Na_takeOff_78 (zs_Na_digits k_a0) o2 (fun D3 e4 => ?_)
  have h := h D3 e4
  obtain ⟨o5, h⟩ := h
  refine q_iinc d_Na_takeOff_79 rfl (by decide) o5 (L' := [vR a0, vR a1, vL y0, vU, vI (x4 + 1), vU, vU, vL x7, vU]) rfl ?_
  refine q_goto (tgt := 5) d_Na_takeOff_82 (by decide) ?_
  exact h
theorem s_Na_times_0 {a0 : Nat} {x1 : Int} (k_a0 : zk a0 = (0, 3, 0)) (h : Sg g M_Na_times Q 5 [vR a0, vI x1, vL 0, vU, vI 0] [] D) : Sg g M_Na_times Q 0 [vR a0, vI x1, vU, vU, vU] [] D := by
  unfold Sg
  refine q_lconst (x := 0) d_Na_times_0 ⟨rfl, by decide⟩ ?_
  refine q_lstore_n d_Na_times_1 (by decide) (L' := [vR a0, vI x1, vL 0, vU, vU]) rfl ?_
  refine q_iconst d_Na_times_2 (by decide) ?_
  refine q_istore d_Na_times_3 (by decide) (L' := [vR a0, vI x1, vL 0, vU, vI 0]) rfl ?_
  exact h
theorem s_Na_times_5 {a0 : Nat} {x1 : Int} {x2 : Int} {x4 : Int} (k_a0 : zk a0 = (0, 3, 0)) (h : (((D a0 1) ≤ x4 → CV g M_Na_push [vR a0, vL x2] D (fun D' => Sg g M_Na_times Q 57 [vR a0, vI x1, vL x2, vU, vI x4] [] D')) ∧ (¬ (D a0 1) ≤ x4 → ((0 ≤ x4 ∧ x4 < 32) ∧ R64 ((D (a0 + 1) x4) * x1) ∧ R64 (x2 + ((D (a0 + 1) x4) * x1)) ∧ R32 ((x2 + ((D (a0 + 1) x4) * x1)) % 2 ^ 31) ∧ (0 ≤ x4 ∧ x4 < 32)) ∧ (∀ D8, D8 = zw D (a0 + 1) x4 ((x2 + ((D (a0 + 1) x4) * x1)) % 2 ^ 31) → (R32 (x4 + 1)) ∧ Sg g M_Na_times Q 5 [vR a0, vI x1, vL ((x2 + ((D (a0 + 1) x4) * x1)) / 2 ^ 31), vU, vI (x4 + 1)] [] D8)))) : Sg g M_Na_times Q 5 [vR a0, vI x1, vL x2, vU, vI x4] [] D := by
  unfold Sg
  refine q_iload d_Na_times_5 rfl ?_
  refine q_aload_n d_Na_times_7 rfl ?_
  refine p_getI (k := 1) zc_Na l_Na_15 fi_Na_size d_Na_times_8 k_a0 ?_
  refine q_icmp_ge (tgt := 52) d_Na_times_11 (by decide) (fun c1 => ?_) (fun c1 => ?_)
  · have h := h.1 (c1)
    refine q_aload_n d_Na_times_52 rfl ?_
    refine q_lload_n d_Na_times_53 rfl ?_
    refine p_callV (as := [vL x2]) (st := []) (a := a0) mc_Na_push mv_Na_push l_Na_33 zc_Na rfl d_Na_times_54 rfl rfl rfl k_a0 (CV.to ?_)
    exact h
  · have h := h.2 (c1)
    obtain ⟨⟨o3, o4, o5, o6, o7⟩, h⟩ := h
    refine q_lload_n d_Na_times_14 rfl ?_
    refine q_aload_n d_Na_times_15 rfl ?_
    refine p_getR (k := 0) (b := (a0 + 1)) zc_Na l_Na_9 fr_Na_digits d_Na_times_16 k_a0 rfl ?_
    refine q_iload d_Na_times_19 rfl ?_
    refine p_iald d_Na_times_21 (zs_Na_digits k_a0) o3 ?_
    refine q_i2l d_Na_times_22 ?_
    refine q_iload_n d_Na_times_23 rfl ?_
    refine q_i2l d_Na_times_24 ?_
    refine q_lmul d_Na_times_25 o4 ?_
    refine q_ladd d_Na_times_26 o5 ?_
    refine q_lstore_n d_Na_times_27 (by decide) (L' := [vR a0, vI x1, vL (x2 + ((D (a0 + 1) x4) * x1)), vU, vI x4]) rfl ?_
    refine q_aload_n d_Na_times_28 rfl ?_
    refine p_getR (k := 0) (b := (a0 + 1)) zc_Na l_Na_9 fr_Na_digits d_Na_times_29 k_a0 rfl ?_
    refine q_iload d_Na_times_32 rfl ?_
    refine q_lload_n d_Na_times_34 rfl ?_
    refine q_ldc2 (x := 2147483647) l_Na_19 d_Na_times_35 (by decide) ?_
    refine q_land 31 d_Na_times_38 ⟨by decide +kernel, by decide⟩ ?_
    refine q_l2i d_Na_times_39 o6 ?_
    refine p_iast d_Na_times_40 (zs_Na_digits k_a0) o7 (fun D8 e9 => ?_)
    have h := h D8 e9
    obtain ⟨o10, h⟩ := h
    refine q_lload_n d_Na_times_41 rfl ?_
    refine q_bipush d_Na_times_42 kb_31 ?_
    refine q_lshr d_Na_times_44 (by decide) ?_
    refine q_lstore_n d_Na_times_45 (by decide) (L' := [vR a0, vI x1, vL ((x2 + ((D (a0 + 1) x4) * x1)) / 2 ^ 31), vU, vI x4]) rfl ?_
    refine q_iinc d_Na_times_46 rfl (by decide) o10 (L' := [vR a0, vI x1, vL ((x2 + ((D (a0 + 1) x4) * x1)) / 2 ^ 31), vU, vI (x4 + 1)]) rfl ?_
    refine q_goto (tgt := 5) d_Na_times_49 (by decide) ?_
    exact h
theorem s_Na_times_57 {a0 : Nat} {z1 : VV} {z2 : VV} {z3 : VV} {z4 : VV} (k_a0 : zk a0 = (0, 3, 0)) (h : CV g M_Na_trim [vR a0] D (fun D' => Sg g M_Na_times Q 61 [vR a0, vU, vU, vU, vU] [] D')) : Sg g M_Na_times Q 57 [vR a0, z1, z2, z3, z4] [] D := by
  unfold Sg
  refine q_mask [false, true, true, true, true] (L' := [vR a0, vU, vU, vU, vU]) rfl ?_
  refine q_aload_n d_Na_times_57 rfl ?_
  refine p_callV (as := []) (st := []) (a := a0) mc_Na_trim mv_Na_trim l_Na_37 zc_Na rfl d_Na_times_58 rfl rfl rfl k_a0 (CV.to ?_)
  exact h
theorem s_Na_times_61 {z0 : VV} {z1 : VV} {z2 : VV} {z3 : VV} {z4 : VV}  (h : Q none zE D) : Sg g M_Na_times Q 61 [z0, z1, z2, z3, z4] [] D := by
  unfold Sg
  refine q_mask [true, true, true, true, true] (L' := [vU, vU, vU, vU, vU]) rfl ?_
  exact q_vret d_Na_times_61 rfl ⟨Nat.le_refl _, Nat.le_refl _⟩ h
theorem s_Na_divideSmall_0 {a0 : Nat} {x1 : Int} (k_a0 : zk a0 = (0, 3, 0)) (h : ((1 ≤ x1 → (R32 ((D a0 1) - 1)) ∧ Sg g M_Na_divideSmall Q 17 [vR a0, vI x1, vL 0, vU, vI ((D a0 1) - 1)] [] D) ∧ (¬ 1 ≤ x1 → Q (some (vI 0)) zE D))) : Sg g M_Na_divideSmall Q 0 [vR a0, vI x1, vU, vU, vU] [] D := by
  unfold Sg
  refine q_iload_n d_Na_divideSmall_0 rfl ?_
  refine q_iconst d_Na_divideSmall_1 (by decide) ?_
  refine q_icmp_ge (tgt := 7) d_Na_divideSmall_2 (by decide) (fun c1 => ?_) (fun c1 => ?_)
  · have h := h.1 (c1)
    obtain ⟨o2, h⟩ := h
    refine q_lconst (x := 0) d_Na_divideSmall_7 ⟨rfl, by decide⟩ ?_
    refine q_lstore_n d_Na_divideSmall_8 (by decide) (L' := [vR a0, vI x1, vL 0, vU, vU]) rfl ?_
    refine q_aload_n d_Na_divideSmall_9 rfl ?_
    refine p_getI (k := 1) zc_Na l_Na_15 fi_Na_size d_Na_divideSmall_10 k_a0 ?_
    refine q_iconst d_Na_divideSmall_13 (by decide) ?_
    refine q_isub d_Na_divideSmall_14 o2 ?_
    refine q_istore d_Na_divideSmall_15 (by decide) (L' := [vR a0, vI x1, vL 0, vU, vI ((D a0 1) - 1)]) rfl ?_
    exact h
  · have h := h.2 (c1)
    refine q_iconst d_Na_divideSmall_5 (by decide) ?_
    exact q_iret d_Na_divideSmall_6 (Or.inl rfl) ⟨Nat.le_refl _, Nat.le_refl _⟩ h
theorem s_Na_divideSmall_17 {a0 : Nat} {x1 : Int} {x2 : Int} {x4 : Int} (k_a0 : zk a0 = (0, 3, 0)) (h : ((x4 < 0 → CV g M_Na_trim [vR a0] D (fun D' => Sg g M_Na_divideSmall Q 63 [vR a0, vI x1, vL x2, vU, vI x4] [] D')) ∧ (¬ x4 < 0 → (R64 (x2 * 2 ^ 31) ∧ (0 ≤ x4 ∧ x4 < 32) ∧ (zdis (x2 * 2 ^ 31) (D (a0 + 1) x4) ∧ R64 ((x2 * 2 ^ 31) + (D (a0 + 1) x4))) ∧ (0 ≤ (x2 * 2 ^ 31) + (D (a0 + 1) x4) ∧ 0 < x1) ∧ R32 (((x2 * 2 ^ 31) + (D (a0 + 1) x4)) / x1) ∧ (0 ≤ x4 ∧ x4 < 32)) ∧ (∀ D9, D9 = zw D (a0 + 1) x4 (((x2 * 2 ^ 31) + (D (a0 + 1) x4)) / x1) → ((0 ≤ (x2 * 2 ^ 31) + (D (a0 + 1) x4) ∧ 0 < x1) ∧ R32 (x4 + (-1))) ∧ Sg g M_Na_divideSmall Q 17 [vR a0, vI x1, vL (((x2 * 2 ^ 31) + (D (a0 + 1) x4)) % x1), vU, vI (x4 + (-1))] [] D9)))) : Sg g M_Na_divideSmall Q 17 [vR a0, vI x1, vL x2, vU, vI x4] [] D := by
  unfold Sg
  refine q_iload d_Na_divideSmall_17 rfl ?_
  refine q_if_lt (tgt := 59) d_Na_divideSmall_19 (by decide) (fun c1 => ?_) (fun c1 => ?_)
  · have h := h.1 (c1)
    refine q_aload_n d_Na_divideSmall_59 rfl ?_
    refine p_callV (as := []) (st := []) (a := a0) mc_Na_trim mv_Na_trim l_Na_37 zc_Na rfl d_Na_divideSmall_60 rfl rfl rfl k_a0 (CV.to ?_)
    exact h
  · have h := h.2 (c1)
    obtain ⟨⟨o3, o4, o5, o6, o7, o8⟩, h⟩ := h
    refine q_lload_n d_Na_divideSmall_22 rfl ?_
    refine q_bipush d_Na_divideSmall_23 kb_31 ?_
    refine q_lshl d_Na_divideSmall_25 ⟨by decide, o3⟩ ?_
    refine q_aload_n d_Na_divideSmall_26 rfl ?_
    refine p_getR (k := 0) (b := (a0 + 1)) zc_Na l_Na_9 fr_Na_digits d_Na_divideSmall_27 k_a0 rfl ?_
    refine q_iload d_Na_divideSmall_30 rfl ?_
    refine p_iald d_Na_divideSmall_32 (zs_Na_digits k_a0) o4 ?_
    refine q_i2l d_Na_divideSmall_33 ?_
    refine q_lor d_Na_divideSmall_34 o5 ?_
    refine q_lstore_n d_Na_divideSmall_35 (by decide) (L' := [vR a0, vI x1, vL ((x2 * 2 ^ 31) + (D (a0 + 1) x4)), vU, vI x4]) rfl ?_
    refine q_aload_n d_Na_divideSmall_36 rfl ?_
    refine p_getR (k := 0) (b := (a0 + 1)) zc_Na l_Na_9 fr_Na_digits d_Na_divideSmall_37 k_a0 rfl ?_
    refine q_iload d_Na_divideSmall_40 rfl ?_
    refine q_lload_n d_Na_divideSmall_42 rfl ?_
    refine q_iload_n d_Na_divideSmall_43 rfl ?_
    refine q_i2l d_Na_divideSmall_44 ?_
    refine q_ldiv d_Na_divideSmall_45 o6 ?_
    refine q_l2i d_Na_divideSmall_46 o7 ?_
    refine p_iast d_Na_divideSmall_47 (zs_Na_digits k_a0) o8 (fun D9 e10 => ?_)
    have h := h D9 e10
    obtain ⟨⟨o11, o12⟩, h⟩ := h
    refine q_lload_n d_Na_divideSmall_48 rfl ?_
    refine q_iload_n d_Na_divideSmall_49 rfl ?_
    refine q_i2l d_Na_divideSmall_50 ?_
    refine q_lrem d_Na_divideSmall_51 o11 ?_
    refine q_lstore_n d_Na_divideSmall_52 (by decide) (L' := [vR a0, vI x1, vL (((x2 * 2 ^ 31) + (D (a0 + 1) x4)) % x1), vU, vI x4]) rfl ?_
    refine q_iinc d_Na_divideSmall_53 rfl (by decide) o12 (L' := [vR a0, vI x1, vL (((x2 * 2 ^ 31) + (D (a0 + 1) x4)) % x1), vU, vI (x4 + (-1))]) rfl ?_
    refine q_goto (tgt := 17) d_Na_divideSmall_56 (by decide) ?_
    exact h
theorem s_Na_divideSmall_63 {z0 : VV} {z1 : VV} {x2 : Int} {z4 : VV}  (h : (R32 x2) ∧ Q (some (vI x2)) zE D) : Sg g M_Na_divideSmall Q 63 [z0, z1, vL x2, vU, z4] [] D := by
  unfold Sg
  refine q_mask [true, true, false, false, true] (L' := [vU, vU, vL x2, vU, vU]) rfl ?_
  obtain ⟨o1, h⟩ := h
  refine q_lload_n d_Na_divideSmall_63 rfl ?_
  refine q_l2i d_Na_divideSmall_64 o1 ?_
  exact q_iret d_Na_divideSmall_65 (Or.inl rfl) ⟨Nat.le_refl _, Nat.le_refl _⟩ h
theorem s_Na_freeBits_0 {a0 : Nat} (k_a0 : zk a0 = (0, 3, 0)) (h : (((D a0 1) ≤ 0 → Q (some (vI 0)) zE D) ∧ (¬ (D a0 1) ≤ 0 → (R32 ((D a0 1) - 1) ∧ (0 ≤ (D a0 1) - 1 ∧ (D a0 1) - 1 < 32)) ∧ Sg g M_Na_freeBits Q 21 [vR a0, vI 0, vI (D (a0 + 1) ((D a0 1) - 1))] [] D))) : Sg g M_Na_freeBits Q 0 [vR a0, vU, vU] [] D := by
  unfold Sg
  refine q_iconst d_Na_freeBits_0 (by decide) ?_
  refine q_istore_n d_Na_freeBits_1 (by decide) (L' := [vR a0, vI 0, vU]) rfl ?_
  refine q_aload_n d_Na_freeBits_2 rfl ?_
  refine p_getI (k := 1) zc_Na l_Na_15 fi_Na_size d_Na_freeBits_3 k_a0 ?_
  refine q_if_le (tgt := 41) d_Na_freeBits_6 (by decide) (fun c1 => ?_) (fun c1 => ?_)
  · have h := h.1 (c1)
    refine q_iload_n d_Na_freeBits_41 rfl ?_
    exact q_iret d_Na_freeBits_42 (Or.inl rfl) ⟨Nat.le_refl _, Nat.le_refl _⟩ h
  · have h := h.2 (c1)
    obtain ⟨⟨o2, o3⟩, h⟩ := h
    refine q_aload_n d_Na_freeBits_9 rfl ?_
    refine p_getR (k := 0) (b := (a0 + 1)) zc_Na l_Na_9 fr_Na_digits d_Na_freeBits_10 k_a0 rfl ?_
    refine q_aload_n d_Na_freeBits_13 rfl ?_
    refine p_getI (k := 1) zc_Na l_Na_15 fi_Na_size d_Na_freeBits_14 k_a0 ?_
    refine q_iconst d_Na_freeBits_17 (by decide) ?_
    refine q_isub d_Na_freeBits_18 o2 ?_
    refine p_iald d_Na_freeBits_19 (zs_Na_digits k_a0) o3 ?_
    refine q_istore_n d_Na_freeBits_20 (by decide) (L' := [vR a0, vI 0, vI (D (a0 + 1) ((D a0 1) - 1))]) rfl ?_
    exact h
theorem s_Na_freeBits_21 {z0 : VV} {x1 : Int} {x2 : Int}  (h : ((30 ≤ x1 → Q (some (vI x1)) zE D) ∧ (¬ 30 ≤ x1 → (((0 ≤ x1 ∧ x1 < 32) ∧ R32 (x2 * 2 ^ x1.toNat))) ∧ ((1073741824 ≤ (x2 * 2 ^ x1.toNat) → Q (some (vI x1)) zE D) ∧ (¬ 1073741824 ≤ (x2 * 2 ^ x1.toNat) → (R32 (x1 + 1)) ∧ Sg g M_Na_freeBits Q 21 [vU, vI (x1 + 1), vI x2] [] D))))) : Sg g M_Na_freeBits Q 21 [z0, vI x1, vI x2] [] D := by
  unfold Sg
  refine q_mask [true, false, false] (L' := [vU, vI x1, vI x2]) rfl ?_
  refine q_iload_n d_Na_freeBits_21 rfl ?_
  refine q_bipush d_Na_freeBits_22 kb_30 ?_
  refine q_icmp_ge (tgt := 41) d_Na_freeBits_24 (by decide) (fun c1 => ?_) (fun c1 => ?_)
  · have h := h.1 (c1)
    refine q_iload_n d_Na_freeBits_41 rfl ?_
    exact q_iret d_Na_freeBits_42 (Or.inl rfl) ⟨Nat.le_refl _, Nat.le_refl _⟩ h
  · have h := h.2 (c1)
    obtain ⟨o2, h⟩ := h
    refine q_iload_n d_Na_freeBits_27 rfl ?_
    refine q_iload_n d_Na_freeBits_28 rfl ?_
    refine q_ishl d_Na_freeBits_29 o2 ?_
    refine q_ldc (x := 1073741824) l_Na_82 d_Na_freeBits_30 (by decide) ?_
    refine q_icmp_ge (tgt := 41) d_Na_freeBits_32 (by decide) (fun c3 => ?_) (fun c3 => ?_)
    · have h := h.1 (c3)
      refine q_iload_n d_Na_freeBits_41 rfl ?_
      exact q_iret d_Na_freeBits_42 (Or.inl rfl) ⟨Nat.le_refl _, Nat.le_refl _⟩ h
    · have h := h.2 (c3)
      obtain ⟨o4, h⟩ := h
      refine q_iinc d_Na_freeBits_35 rfl (by decide) o4 (L' := [vU, vI (x1 + 1), vI x2]) rfl ?_
      refine q_goto (tgt := 21) d_Na_freeBits_38 (by decide) ?_
      exact h
theorem s_Na_shiftUp_0 {a0 : Nat} {x1 : Int} (k_a0 : zk a0 = (0, 3, 0)) (h : Sg g M_Na_shiftUp Q 5 [vR a0, vI x1, vL 0, vU, vI 0] [] D) : Sg g M_Na_shiftUp Q 0 [vR a0, vI x1, vU, vU, vU] [] D := by
  unfold Sg
  refine q_lconst (x := 0) d_Na_shiftUp_0 ⟨rfl, by decide⟩ ?_
  refine q_lstore_n d_Na_shiftUp_1 (by decide) (L' := [vR a0, vI x1, vL 0, vU, vU]) rfl ?_
  refine q_iconst d_Na_shiftUp_2 (by decide) ?_
  refine q_istore d_Na_shiftUp_3 (by decide) (L' := [vR a0, vI x1, vL 0, vU, vI 0]) rfl ?_
  exact h
theorem s_Na_shiftUp_5 {a0 : Nat} {x1 : Int} {x2 : Int} {x4 : Int} (k_a0 : zk a0 = (0, 3, 0)) (h : (((D a0 1) ≤ x4 → CV g M_Na_push [vR a0, vL x2] D (fun D' => Sg g M_Na_shiftUp Q 56 [vR a0, vI x1, vL x2, vU, vI x4] [] D')) ∧ (¬ (D a0 1) ≤ x4 → ((0 ≤ x4 ∧ x4 < 32) ∧ ((0 ≤ x1 ∧ x1 < 64) ∧ R64 ((D (a0 + 1) x4) * 2 ^ x1.toNat)) ∧ (zdis x2 ((D (a0 + 1) x4) * 2 ^ x1.toNat) ∧ R64 (x2 + ((D (a0 + 1) x4) * 2 ^ x1.toNat))) ∧ R32 ((x2 + ((D (a0 + 1) x4) * 2 ^ x1.toNat)) % 2 ^ 31) ∧ (0 ≤ x4 ∧ x4 < 32)) ∧ (∀ D8, D8 = zw D (a0 + 1) x4 ((x2 + ((D (a0 + 1) x4) * 2 ^ x1.toNat)) % 2 ^ 31) → (R32 (x4 + 1)) ∧ Sg g M_Na_shiftUp Q 5 [vR a0, vI x1, vL ((x2 + ((D (a0 + 1) x4) * 2 ^ x1.toNat)) / 2 ^ 31), vU, vI (x4 + 1)] [] D8)))) : Sg g M_Na_shiftUp Q 5 [vR a0, vI x1, vL x2, vU, vI x4] [] D := by
  unfold Sg
  refine q_iload d_Na_shiftUp_5 rfl ?_
  refine q_aload_n d_Na_shiftUp_7 rfl ?_
  refine p_getI (k := 1) zc_Na l_Na_15 fi_Na_size d_Na_shiftUp_8 k_a0 ?_
  refine q_icmp_ge (tgt := 51) d_Na_shiftUp_11 (by decide) (fun c1 => ?_) (fun c1 => ?_)
  · have h := h.1 (c1)
    refine q_aload_n d_Na_shiftUp_51 rfl ?_
    refine q_lload_n d_Na_shiftUp_52 rfl ?_
    refine p_callV (as := [vL x2]) (st := []) (a := a0) mc_Na_push mv_Na_push l_Na_33 zc_Na rfl d_Na_shiftUp_53 rfl rfl rfl k_a0 (CV.to ?_)
    exact h
  · have h := h.2 (c1)
    obtain ⟨⟨o3, o4, o5, o6, o7⟩, h⟩ := h
    refine q_lload_n d_Na_shiftUp_14 rfl ?_
    refine q_aload_n d_Na_shiftUp_15 rfl ?_
    refine p_getR (k := 0) (b := (a0 + 1)) zc_Na l_Na_9 fr_Na_digits d_Na_shiftUp_16 k_a0 rfl ?_
    refine q_iload d_Na_shiftUp_19 rfl ?_
    refine p_iald d_Na_shiftUp_21 (zs_Na_digits k_a0) o3 ?_
    refine q_i2l d_Na_shiftUp_22 ?_
    refine q_iload_n d_Na_shiftUp_23 rfl ?_
    refine q_lshl d_Na_shiftUp_24 o4 ?_
    refine q_lor d_Na_shiftUp_25 o5 ?_
    refine q_lstore_n d_Na_shiftUp_26 (by decide) (L' := [vR a0, vI x1, vL (x2 + ((D (a0 + 1) x4) * 2 ^ x1.toNat)), vU, vI x4]) rfl ?_
    refine q_aload_n d_Na_shiftUp_27 rfl ?_
    refine p_getR (k := 0) (b := (a0 + 1)) zc_Na l_Na_9 fr_Na_digits d_Na_shiftUp_28 k_a0 rfl ?_
    refine q_iload d_Na_shiftUp_31 rfl ?_
    refine q_lload_n d_Na_shiftUp_33 rfl ?_
    refine q_ldc2 (x := 2147483647) l_Na_19 d_Na_shiftUp_34 (by decide) ?_
    refine q_land 31 d_Na_shiftUp_37 ⟨by decide +kernel, by decide⟩ ?_
    refine q_l2i d_Na_shiftUp_38 o6 ?_
    refine p_iast d_Na_shiftUp_39 (zs_Na_digits k_a0) o7 (fun D8 e9 => ?_)
    have h := h D8 e9
    obtain ⟨o10, h⟩ := h
    refine q_lload_n d_Na_shiftUp_40 rfl ?_
    refine q_bipush d_Na_shiftUp_41 kb_31 ?_
    refine q_lshr d_Na_shiftUp_43 (by decide) ?_
    refine q_lstore_n d_Na_shiftUp_44 (by decide) (L' := [vR a0, vI x1, vL ((x2 + ((D (a0 + 1) x4) * 2 ^ x1.toNat)) / 2 ^ 31), vU, vI x4]) rfl ?_
    refine q_iinc d_Na_shiftUp_45 rfl (by decide) o10 (L' := [vR a0, vI x1, vL ((x2 + ((D (a0 + 1) x4) * 2 ^ x1.toNat)) / 2 ^ 31), vU, vI (x4 + 1)]) rfl ?_
    refine q_goto (tgt := 5) d_Na_shiftUp_48 (by decide) ?_
    exact h
theorem s_Na_shiftUp_56 {z0 : VV} {z1 : VV} {z2 : VV} {z3 : VV} {z4 : VV}  (h : Q none zE D) : Sg g M_Na_shiftUp Q 56 [z0, z1, z2, z3, z4] [] D := by
  unfold Sg
  refine q_mask [true, true, true, true, true] (L' := [vU, vU, vU, vU, vU]) rfl ?_
  exact q_vret d_Na_shiftUp_56 rfl ⟨Nat.le_refl _, Nat.le_refl _⟩ h
theorem s_Na_shiftDown_0 {a0 : Nat} {x1 : Int} (k_a0 : zk a0 = (0, 3, 0)) (h : (R32 ((D a0 1) - 1)) ∧ Sg g M_Na_shiftDown Q 10 [vR a0, vI x1, vL 0, vU, vI ((D a0 1) - 1)] [] D) : Sg g M_Na_shiftDown Q 0 [vR a0, vI x1, vU, vU, vU] [] D := by
  unfold Sg
  obtain ⟨o1, h⟩ := h
  refine q_lconst (x := 0) d_Na_shiftDown_0 ⟨rfl, by decide⟩ ?_
  refine q_lstore_n d_Na_shiftDown_1 (by decide) (L' := [vR a0, vI x1, vL 0, vU, vU]) rfl ?_
  refine q_aload_n d_Na_shiftDown_2 rfl ?_
  refine p_getI (k := 1) zc_Na l_Na_15 fi_Na_size d_Na_shiftDown_3 k_a0 ?_
  refine q_iconst d_Na_shiftDown_6 (by decide) ?_
  refine q_isub d_Na_shiftDown_7 o1 ?_
  refine q_istore d_Na_shiftDown_8 (by decide) (L' := [vR a0, vI x1, vL 0, vU, vI ((D a0 1) - 1)]) rfl ?_
  exact h
theorem s_Na_shiftDown_10 {a0 : Nat} {x1 : Int} {x2 : Int} {x4 : Int} (k_a0 : zk a0 = (0, 3, 0)) (h : ((x4 < 0 → CV g M_Na_trim [vR a0] D (fun D' => Sg g M_Na_shiftDown Q 58 [vR a0, vI x1, vL x2, vU, vI x4] [] D')) ∧ (¬ x4 < 0 → (R64 (x2 * 2 ^ 31) ∧ (0 ≤ x4 ∧ x4 < 32) ∧ (zdis (x2 * 2 ^ 31) (D (a0 + 1) x4) ∧ R64 ((x2 * 2 ^ 31) + (D (a0 + 1) x4))) ∧ (0 ≤ x1 ∧ x1 < 64) ∧ R32 (((x2 * 2 ^ 31) + (D (a0 + 1) x4)) / 2 ^ x1.toNat) ∧ (0 ≤ x4 ∧ x4 < 32)) ∧ (∀ D9, D9 = zw D (a0 + 1) x4 (((x2 * 2 ^ 31) + (D (a0 + 1) x4)) / 2 ^ x1.toNat) → (((0 ≤ x1 ∧ x1 < 64) ∧ R64 (1 * 2 ^ x1.toNat)) ∧ R64 ((1 * 2 ^ x1.toNat) - 1) ∧ (0 ≤ x1 ∧ x1 ≤ 62) ∧ R32 (x4 + (-1))) ∧ Sg g M_Na_shiftDown Q 10 [vR a0, vI x1, vL (((x2 * 2 ^ 31) + (D (a0 + 1) x4)) % 2 ^ x1.toNat), vU, vI (x4 + (-1))] [] D9)))) : Sg g M_Na_shiftDown Q 10 [vR a0, vI x1, vL x2, vU, vI x4] [] D := by
  unfold Sg
  refine q_iload d_Na_shiftDown_10 rfl ?_
  refine q_if_lt (tgt := 54) d_Na_shiftDown_12 (by decide) (fun c1 => ?_) (fun c1 => ?_)
  · have h := h.1 (c1)
    refine q_aload_n d_Na_shiftDown_54 rfl ?_
    refine p_callV (as := []) (st := []) (a := a0) mc_Na_trim mv_Na_trim l_Na_37 zc_Na rfl d_Na_shiftDown_55 rfl rfl rfl k_a0 (CV.to ?_)
    exact h
  · have h := h.2 (c1)
    obtain ⟨⟨o3, o4, o5, o6, o7, o8⟩, h⟩ := h
    refine q_lload_n d_Na_shiftDown_15 rfl ?_
    refine q_bipush d_Na_shiftDown_16 kb_31 ?_
    refine q_lshl d_Na_shiftDown_18 ⟨by decide, o3⟩ ?_
    refine q_aload_n d_Na_shiftDown_19 rfl ?_
    refine p_getR (k := 0) (b := (a0 + 1)) zc_Na l_Na_9 fr_Na_digits d_Na_shiftDown_20 k_a0 rfl ?_
    refine q_iload d_Na_shiftDown_23 rfl ?_
    refine p_iald d_Na_shiftDown_25 (zs_Na_digits k_a0) o4 ?_
    refine q_i2l d_Na_shiftDown_26 ?_
    refine q_lor d_Na_shiftDown_27 o5 ?_
    refine q_lstore_n d_Na_shiftDown_28 (by decide) (L' := [vR a0, vI x1, vL ((x2 * 2 ^ 31) + (D (a0 + 1) x4)), vU, vI x4]) rfl ?_
    refine q_aload_n d_Na_shiftDown_29 rfl ?_
    refine p_getR (k := 0) (b := (a0 + 1)) zc_Na l_Na_9 fr_Na_digits d_Na_shiftDown_30 k_a0 rfl ?_
    refine q_iload d_Na_shiftDown_33 rfl ?_
    refine q_lload_n d_Na_shiftDown_35 rfl ?_
    refine q_iload_n d_Na_shiftDown_36 rfl ?_
    refine q_lshr d_Na_shiftDown_37 o6 ?_
    refine q_l2i d_Na_shiftDown_38 o7 ?_
    refine p_iast d_Na_shiftDown_39 (zs_Na_digits k_a0) o8 (fun D9 e10 => ?_)
    have h := h D9 e10
    obtain ⟨⟨o11, o12, o13, o14⟩, h⟩ := h
    refine q_lload_n d_Na_shiftDown_40 rfl ?_
    refine q_lconst (x := 1) d_Na_shiftDown_41 ⟨rfl, by decide⟩ ?_
    refine q_iload_n d_Na_shiftDown_42 rfl ?_
    refine q_lshl d_Na_shiftDown_43 o11 ?_
    refine q_lconst (x := 1) d_Na_shiftDown_44 ⟨rfl, by decide⟩ ?_
    refine q_lsub d_Na_shiftDown_45 o12 ?_
    refine q_land x1.toNat d_Na_shiftDown_46 (zmask o13) ?_
    refine q_lstore_n d_Na_shiftDown_47 (by decide) (L' := [vR a0, vI x1, vL (((x2 * 2 ^ 31) + (D (a0 + 1) x4)) % 2 ^ x1.toNat), vU, vI x4]) rfl ?_
    refine q_iinc d_Na_shiftDown_48 rfl (by decide) o14 (L' := [vR a0, vI x1, vL (((x2 * 2 ^ 31) + (D (a0 + 1) x4)) % 2 ^ x1.toNat), vU, vI (x4 + (-1))]) rfl ?_
    refine q_goto (tgt := 10) d_Na_shiftDown_51 (by decide) ?_
    exact h
theorem s_Na_shiftDown_58 {z0 : VV} {z1 : VV} {z2 : VV} {z3 : VV} {z4 : VV}  (h : Q none zE D) : Sg g M_Na_shiftDown Q 58 [z0, z1, z2, z3, z4] [] D := by
  unfold Sg
  refine q_mask [true, true, true, true, true] (L' := [vU, vU, vU, vU, vU]) rfl ?_
  exact q_vret d_Na_shiftDown_58 rfl ⟨Nat.le_refl _, Nat.le_refl _⟩ h
end SEG
