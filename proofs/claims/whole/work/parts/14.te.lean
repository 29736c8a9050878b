/-! printed by wip/whole/tools/seg.py: Te_at, Te_write, Te_writeNumber, Te_writeChunk, Te_push -/
theorem zk_703 : zk 703 = (0, 10, 0) := by decide +kernel
theorem zk_704 : zk 704 = (4, 721, 0) := by decide +kernel
theorem zk_705 : zk 705 = (1, 40, 0) := by decide +kernel
theorem zk_706 : zk 706 = (0, 3, 0) := by decide +kernel
theorem kb_9 : (Int8.ofInt 9).toInt32 = Int32.ofInt 9 ∧ R32 9 := ⟨by decide +kernel, by decide⟩
theorem kb_10 : (Int8.ofInt 10).toInt32 = Int32.ofInt 10 ∧ R32 10 := ⟨by decide +kernel, by decide⟩
theorem kb_40 : (Int8.ofInt 40).toInt32 = Int32.ofInt 40 ∧ R32 40 := ⟨by decide +kernel, by decide⟩
theorem kb_47 : (Int8.ofInt 47).toInt32 = Int32.ofInt 47 ∧ R32 47 := ⟨by decide +kernel, by decide⟩
theorem kb_48 : (Int8.ofInt 48).toInt32 = Int32.ofInt 48 ∧ R32 48 := ⟨by decide +kernel, by decide⟩
theorem ks_721 : (Int16.ofInt 721).toInt32 = Int32.ofInt 721 ∧ R32 721 := ⟨by decide +kernel, by decide⟩
theorem fi_Te_length : 1 < 4 ∧ (zft 10 1).1 ≠ 2 ∧ ((1 : Nat) : Int) = 1 := ⟨by decide, by decide +kernel, rfl⟩
theorem fr_Te_characters : 0 < 4 ∧ zft 10 0 = (2, 1) := ⟨by decide, by decide +kernel⟩
theorem fr_Te_chunks : 2 < 4 ∧ zft 10 2 = (2, 2) := ⟨by decide, by decide +kernel⟩
theorem fr_Te_rest : 3 < 4 ∧ zft 10 3 = (2, 3) := ⟨by decide, by decide +kernel⟩
theorem fp_Te_length : 1 < 4 ∧ (zft 10 1).1 ≠ 2 ∧ ((1 : Nat) : Int) = 1 ∧ (F_Te 1).2.2.2 = false := ⟨by decide, by decide +kernel, rfl, rfl⟩
theorem d_Te_at_0 : decode prog_11_method_2_code 0 = .ok (.iload_n 1, 1) := by decide +kernel
theorem d_Te_at_1 : decode prog_11_method_2_code 1 = .ok (.ifCond .lt 20, 3) := by decide +kernel
theorem d_Te_at_4 : decode prog_11_method_2_code 4 = .ok (.iload_n 1, 1) := by decide +kernel
theorem d_Te_at_5 : decode prog_11_method_2_code 5 = .ok (.aload_n 0, 1) := by decide +kernel
theorem d_Te_at_6 : decode prog_11_method_2_code 6 = .ok (.getfield 26, 3) := by decide +kernel
theorem d_Te_at_9 : decode prog_11_method_2_code 9 = .ok (.if_icmp .ge 12, 3) := by decide +kernel
theorem d_Te_at_12 : decode prog_11_method_2_code 12 = .ok (.aload_n 0, 1) := by decide +kernel
theorem d_Te_at_13 : decode prog_11_method_2_code 13 = .ok (.getfield 9, 3) := by decide +kernel
theorem d_Te_at_16 : decode prog_11_method_2_code 16 = .ok (.iload_n 1, 1) := by decide +kernel
theorem d_Te_at_17 : decode prog_11_method_2_code 17 = .ok (.caload, 1) := by decide +kernel
theorem d_Te_at_18 : decode prog_11_method_2_code 18 = .ok (.goto 4, 3) := by decide +kernel
theorem d_Te_at_21 : decode prog_11_method_2_code 21 = .ok (.iconst (-1), 1) := by decide +kernel
theorem d_Te_at_22 : decode prog_11_method_2_code 22 = .ok (.ireturn, 1) := by decide +kernel
theorem d_Te_write_0 : decode prog_11_method_3_code 0 = .ok (.aload_n 0, 1) := by decide +kernel
theorem d_Te_write_1 : decode prog_11_method_3_code 1 = .ok (.iconst 0, 1) := by decide +kernel
theorem d_Te_write_2 : decode prog_11_method_3_code 2 = .ok (.putfield 26, 3) := by decide +kernel
theorem d_Te_write_5 : decode prog_11_method_3_code 5 = .ok (.aload_n 0, 1) := by decide +kernel
theorem d_Te_write_6 : decode prog_11_method_3_code 6 = .ok (.aload_n 1, 1) := by decide +kernel
theorem d_Te_write_7 : decode prog_11_method_3_code 7 = .ok (.getfield 30, 3) := by decide +kernel
theorem d_Te_write_10 : decode prog_11_method_3_code 10 = .ok (.invokevirtual 35, 3) := by decide +kernel
theorem d_Te_write_13 : decode prog_11_method_3_code 13 = .ok (.aload_n 1, 1) := by decide +kernel
theorem d_Te_write_14 : decode prog_11_method_3_code 14 = .ok (.getfield 39, 3) := by decide +kernel
theorem d_Te_write_17 : decode prog_11_method_3_code 17 = .ok (.invokevirtual 42, 3) := by decide +kernel
theorem d_Te_write_20 : decode prog_11_method_3_code 20 = .ok (.ifCond .ne 17, 3) := by decide +kernel
theorem d_Te_write_23 : decode prog_11_method_3_code 23 = .ok (.aload_n 0, 1) := by decide +kernel
theorem d_Te_write_24 : decode prog_11_method_3_code 24 = .ok (.bipush 47, 2) := by decide +kernel
theorem d_Te_write_26 : decode prog_11_method_3_code 26 = .ok (.invokevirtual 46, 3) := by decide +kernel
theorem d_Te_write_29 : decode prog_11_method_3_code 29 = .ok (.aload_n 0, 1) := by decide +kernel
theorem d_Te_write_30 : decode prog_11_method_3_code 30 = .ok (.aload_n 1, 1) := by decide +kernel
theorem d_Te_write_31 : decode prog_11_method_3_code 31 = .ok (.getfield 39, 3) := by decide +kernel
theorem d_Te_write_34 : decode prog_11_method_3_code 34 = .ok (.invokevirtual 35, 3) := by decide +kernel
theorem d_Te_write_37 : decode prog_11_method_3_code 37 = .ok (.aload_n 0, 1) := by decide +kernel
theorem d_Te_write_38 : decode prog_11_method_3_code 38 = .ok (.getfield 26, 3) := by decide +kernel
theorem d_Te_write_41 : decode prog_11_method_3_code 41 = .ok (.ireturn, 1) := by decide +kernel
theorem d_Te_writeNumber_0 : decode prog_11_method_4_code 0 = .ok (.iconst 0, 1) := by decide +kernel
theorem d_Te_writeNumber_1 : decode prog_11_method_4_code 1 = .ok (.istore_n 2, 1) := by decide +kernel
theorem d_Te_writeNumber_2 : decode prog_11_method_4_code 2 = .ok (.aload_n 0, 1) := by decide +kernel
theorem d_Te_writeNumber_3 : decode prog_11_method_4_code 3 = .ok (.getfield 22, 3) := by decide +kernel
theorem d_Te_writeNumber_6 : decode prog_11_method_4_code 6 = .ok (.aload_n 1, 1) := by decide +kernel
theorem d_Te_writeNumber_7 : decode prog_11_method_4_code 7 = .ok (.invokevirtual 50, 3) := by decide +kernel
theorem d_Te_writeNumber_10 : decode prog_11_method_4_code 10 = .ok (.iload_n 2, 1) := by decide +kernel
theorem d_Te_writeNumber_11 : decode prog_11_method_4_code 11 = .ok (.bipush 40, 2) := by decide +kernel
theorem d_Te_writeNumber_13 : decode prog_11_method_4_code 13 = .ok (.if_icmp .ge 38, 3) := by decide +kernel
theorem d_Te_writeNumber_16 : decode prog_11_method_4_code 16 = .ok (.iload_n 2, 1) := by decide +kernel
theorem d_Te_writeNumber_17 : decode prog_11_method_4_code 17 = .ok (.ifCond .eq 13, 3) := by decide +kernel
theorem d_Te_writeNumber_20 : decode prog_11_method_4_code 20 = .ok (.aload_n 0, 1) := by decide +kernel
theorem d_Te_writeNumber_21 : decode prog_11_method_4_code 21 = .ok (.getfield 22, 3) := by decide +kernel
theorem d_Te_writeNumber_24 : decode prog_11_method_4_code 24 = .ok (.invokevirtual 53, 3) := by decide +kernel
theorem d_Te_writeNumber_27 : decode prog_11_method_4_code 27 = .ok (.ifCond .ne 24, 3) := by decide +kernel
theorem d_Te_writeNumber_30 : decode prog_11_method_4_code 30 = .ok (.aload_n 0, 1) := by decide +kernel
theorem d_Te_writeNumber_31 : decode prog_11_method_4_code 31 = .ok (.getfield 15, 3) := by decide +kernel
theorem d_Te_writeNumber_34 : decode prog_11_method_4_code 34 = .ok (.iload_n 2, 1) := by decide +kernel
theorem d_Te_writeNumber_35 : decode prog_11_method_4_code 35 = .ok (.aload_n 0, 1) := by decide +kernel
theorem d_Te_writeNumber_36 : decode prog_11_method_4_code 36 = .ok (.getfield 22, 3) := by decide +kernel
theorem d_Te_writeNumber_39 : decode prog_11_method_4_code 39 = .ok (.ldc 56, 2) := by decide +kernel
theorem d_Te_writeNumber_41 : decode prog_11_method_4_code 41 = .ok (.invokevirtual 57, 3) := by decide +kernel
theorem d_Te_writeNumber_44 : decode prog_11_method_4_code 44 = .ok (.iastore, 1) := by decide +kernel
theorem d_Te_writeNumber_45 : decode prog_11_method_4_code 45 = .ok (.iinc 2 1, 3) := by decide +kernel
theorem d_Te_writeNumber_48 : decode prog_11_method_4_code 48 = .ok (.goto (-38), 3) := by decide +kernel
theorem d_Te_writeNumber_51 : decode prog_11_method_4_code 51 = .ok (.iload_n 2, 1) := by decide +kernel
theorem d_Te_writeNumber_52 : decode prog_11_method_4_code 52 = .ok (.iconst 1, 1) := by decide +kernel
theorem d_Te_writeNumber_53 : decode prog_11_method_4_code 53 = .ok (.isub, 1) := by decide +kernel
theorem d_Te_writeNumber_54 : decode prog_11_method_4_code 54 = .ok (.istore_n 3, 1) := by decide +kernel
theorem d_Te_writeNumber_55 : decode prog_11_method_4_code 55 = .ok (.iload_n 3, 1) := by decide +kernel
theorem d_Te_writeNumber_56 : decode prog_11_method_4_code 56 = .ok (.ifCond .lt 31, 3) := by decide +kernel
theorem d_Te_writeNumber_59 : decode prog_11_method_4_code 59 = .ok (.aload_n 0, 1) := by decide +kernel
theorem d_Te_writeNumber_60 : decode prog_11_method_4_code 60 = .ok (.aload_n 0, 1) := by decide +kernel
theorem d_Te_writeNumber_61 : decode prog_11_method_4_code 61 = .ok (.getfield 15, 3) := by decide +kernel
theorem d_Te_writeNumber_64 : decode prog_11_method_4_code 64 = .ok (.iload_n 3, 1) := by decide +kernel
theorem d_Te_writeNumber_65 : decode prog_11_method_4_code 65 = .ok (.iaload, 1) := by decide +kernel
theorem d_Te_writeNumber_66 : decode prog_11_method_4_code 66 = .ok (.iload_n 3, 1) := by decide +kernel
theorem d_Te_writeNumber_67 : decode prog_11_method_4_code 67 = .ok (.iload_n 2, 1) := by decide +kernel
theorem d_Te_writeNumber_68 : decode prog_11_method_4_code 68 = .ok (.iconst 1, 1) := by decide +kernel
theorem d_Te_writeNumber_69 : decode prog_11_method_4_code 69 = .ok (.isub, 1) := by decide +kernel
theorem d_Te_writeNumber_70 : decode prog_11_method_4_code 70 = .ok (.if_icmp .ge 7, 3) := by decide +kernel
theorem d_Te_writeNumber_73 : decode prog_11_method_4_code 73 = .ok (.iconst 1, 1) := by decide +kernel
theorem d_Te_writeNumber_74 : decode prog_11_method_4_code 74 = .ok (.goto 4, 3) := by decide +kernel
theorem d_Te_writeNumber_77 : decode prog_11_method_4_code 77 = .ok (.iconst 0, 1) := by decide +kernel
theorem d_Te_writeNumber_78 : decode prog_11_method_4_code 78 = .ok (.invokevirtual 61, 3) := by decide +kernel
theorem d_Te_writeNumber_81 : decode prog_11_method_4_code 81 = .ok (.iinc 3 (-1), 3) := by decide +kernel
theorem d_Te_writeNumber_84 : decode prog_11_method_4_code 84 = .ok (.goto (-29), 3) := by decide +kernel
theorem d_Te_writeNumber_87 : decode prog_11_method_4_code 87 = .ok (.return_, 1) := by decide +kernel
theorem d_Te_writeChunk_0 : decode prog_11_method_5_code 0 = .ok (.iload_n 2, 1) := by decide +kernel
theorem d_Te_writeChunk_1 : decode prog_11_method_5_code 1 = .ok (.istore_n 3, 1) := by decide +kernel
theorem d_Te_writeChunk_2 : decode prog_11_method_5_code 2 = .ok (.ldc 65, 2) := by decide +kernel
theorem d_Te_writeChunk_4 : decode prog_11_method_5_code 4 = .ok (.istore 4, 2) := by decide +kernel
theorem d_Te_writeChunk_6 : decode prog_11_method_5_code 6 = .ok (.iconst 0, 1) := by decide +kernel
theorem d_Te_writeChunk_7 : decode prog_11_method_5_code 7 = .ok (.istore 5, 2) := by decide +kernel
theorem d_Te_writeChunk_9 : decode prog_11_method_5_code 9 = .ok (.iload 5, 2) := by decide +kernel
theorem d_Te_writeChunk_11 : decode prog_11_method_5_code 11 = .ok (.bipush 9, 2) := by decide +kernel
theorem d_Te_writeChunk_13 : decode prog_11_method_5_code 13 = .ok (.if_icmp .ge 65, 3) := by decide +kernel
theorem d_Te_writeChunk_16 : decode prog_11_method_5_code 16 = .ok (.iload 4, 2) := by decide +kernel
theorem d_Te_writeChunk_18 : decode prog_11_method_5_code 18 = .ok (.ifCond .le 60, 3) := by decide +kernel
theorem d_Te_writeChunk_21 : decode prog_11_method_5_code 21 = .ok (.iload_n 1, 1) := by decide +kernel
theorem d_Te_writeChunk_22 : decode prog_11_method_5_code 22 = .ok (.iload 4, 2) := by decide +kernel
theorem d_Te_writeChunk_24 : decode prog_11_method_5_code 24 = .ok (.idiv, 1) := by decide +kernel
theorem d_Te_writeChunk_25 : decode prog_11_method_5_code 25 = .ok (.bipush 10, 2) := by decide +kernel
theorem d_Te_writeChunk_27 : decode prog_11_method_5_code 27 = .ok (.irem, 1) := by decide +kernel
theorem d_Te_writeChunk_28 : decode prog_11_method_5_code 28 = .ok (.istore 6, 2) := by decide +kernel
theorem d_Te_writeChunk_30 : decode prog_11_method_5_code 30 = .ok (.iload_n 3, 1) := by decide +kernel
theorem d_Te_writeChunk_31 : decode prog_11_method_5_code 31 = .ok (.ifCond .ne 14, 3) := by decide +kernel
theorem d_Te_writeChunk_34 : decode prog_11_method_5_code 34 = .ok (.iload 6, 2) := by decide +kernel
theorem d_Te_writeChunk_36 : decode prog_11_method_5_code 36 = .ok (.ifCond .ne 9, 3) := by decide +kernel
theorem d_Te_writeChunk_39 : decode prog_11_method_5_code 39 = .ok (.iload 4, 2) := by decide +kernel
theorem d_Te_writeChunk_41 : decode prog_11_method_5_code 41 = .ok (.iconst 1, 1) := by decide +kernel
theorem d_Te_writeChunk_42 : decode prog_11_method_5_code 42 = .ok (.if_icmp .ne 7, 3) := by decide +kernel
theorem d_Te_writeChunk_45 : decode prog_11_method_5_code 45 = .ok (.iconst 1, 1) := by decide +kernel
theorem d_Te_writeChunk_46 : decode prog_11_method_5_code 46 = .ok (.goto 4, 3) := by decide +kernel
theorem d_Te_writeChunk_49 : decode prog_11_method_5_code 49 = .ok (.iconst 0, 1) := by decide +kernel
theorem d_Te_writeChunk_50 : decode prog_11_method_5_code 50 = .ok (.istore_n 3, 1) := by decide +kernel
theorem d_Te_writeChunk_51 : decode prog_11_method_5_code 51 = .ok (.iload_n 3, 1) := by decide +kernel
theorem d_Te_writeChunk_52 : decode prog_11_method_5_code 52 = .ok (.ifCond .eq 13, 3) := by decide +kernel
theorem d_Te_writeChunk_55 : decode prog_11_method_5_code 55 = .ok (.aload_n 0, 1) := by decide +kernel
theorem d_Te_writeChunk_56 : decode prog_11_method_5_code 56 = .ok (.bipush 48, 2) := by decide +kernel
theorem d_Te_writeChunk_58 : decode prog_11_method_5_code 58 = .ok (.iload 6, 2) := by decide +kernel
theorem d_Te_writeChunk_60 : decode prog_11_method_5_code 60 = .ok (.iadd, 1) := by decide +kernel
theorem d_Te_writeChunk_61 : decode prog_11_method_5_code 61 = .ok (.i2c, 1) := by decide +kernel
theorem d_Te_writeChunk_62 : decode prog_11_method_5_code 62 = .ok (.invokevirtual 46, 3) := by decide +kernel
theorem d_Te_writeChunk_65 : decode prog_11_method_5_code 65 = .ok (.iload 4, 2) := by decide +kernel
theorem d_Te_writeChunk_67 : decode prog_11_method_5_code 67 = .ok (.bipush 10, 2) := by decide +kernel
theorem d_Te_writeChunk_69 : decode prog_11_method_5_code 69 = .ok (.idiv, 1) := by decide +kernel
theorem d_Te_writeChunk_70 : decode prog_11_method_5_code 70 = .ok (.istore 4, 2) := by decide +kernel
theorem d_Te_writeChunk_72 : decode prog_11_method_5_code 72 = .ok (.iinc 5 1, 3) := by decide +kernel
theorem d_Te_writeChunk_75 : decode prog_11_method_5_code 75 = .ok (.goto (-66), 3) := by decide +kernel
theorem d_Te_writeChunk_78 : decode prog_11_method_5_code 78 = .ok (.return_, 1) := by decide +kernel
theorem d_Te_push_0 : decode prog_11_method_6_code 0 = .ok (.aload_n 0, 1) := by decide +kernel
theorem d_Te_push_1 : decode prog_11_method_6_code 1 = .ok (.getfield 26, 3) := by decide +kernel
theorem d_Te_push_4 : decode prog_11_method_6_code 4 = .ok (.sipush 721, 3) := by decide +kernel
theorem d_Te_push_7 : decode prog_11_method_6_code 7 = .ok (.if_icmp .ge 23, 3) := by decide +kernel
theorem d_Te_push_10 : decode prog_11_method_6_code 10 = .ok (.aload_n 0, 1) := by decide +kernel
theorem d_Te_push_11 : decode prog_11_method_6_code 11 = .ok (.getfield 9, 3) := by decide +kernel
theorem d_Te_push_14 : decode prog_11_method_6_code 14 = .ok (.aload_n 0, 1) := by decide +kernel
theorem d_Te_push_15 : decode prog_11_method_6_code 15 = .ok (.getfield 26, 3) := by decide +kernel
theorem d_Te_push_18 : decode prog_11_method_6_code 18 = .ok (.iload_n 1, 1) := by decide +kernel
theorem d_Te_push_19 : decode prog_11_method_6_code 19 = .ok (.castore, 1) := by decide +kernel
theorem d_Te_push_20 : decode prog_11_method_6_code 20 = .ok (.aload_n 0, 1) := by decide +kernel
theorem d_Te_push_21 : decode prog_11_method_6_code 21 = .ok (.dup, 1) := by decide +kernel
theorem d_Te_push_22 : decode prog_11_method_6_code 22 = .ok (.getfield 26, 3) := by decide +kernel
theorem d_Te_push_25 : decode prog_11_method_6_code 25 = .ok (.iconst 1, 1) := by decide +kernel
theorem d_Te_push_26 : decode prog_11_method_6_code 26 = .ok (.iadd, 1) := by decide +kernel
theorem d_Te_push_27 : decode prog_11_method_6_code 27 = .ok (.putfield 26, 3) := by decide +kernel
theorem d_Te_push_30 : decode prog_11_method_6_code 30 = .ok (.return_, 1) := by decide +kernel
section SEG
variable {g : GG} {Q : Option VV → EE → DD → Prop} {D : DD}
theorem s_Te_at_0 {x1 : Int}  (h : ((x1 < 0 → Q (some (vI (-1))) zE D) ∧ (¬ x1 < 0 → (((D 703 1) ≤ x1 → Q (some (vI (-1))) zE D) ∧ (¬ (D 703 1) ≤ x1 → ((0 ≤ x1 ∧ x1 < 721)) ∧ Q (some (vI (D 704 x1))) zE D))))) : Sg g M_Te_at Q 0 [vR 703, vI x1] [] D := by
  unfold Sg
  refine q_iload_n d_Te_at_0 rfl ?_
  refine q_if_lt (tgt := 21) d_Te_at_1 (by decide) (fun c1 => ?_) (fun c1 => ?_)
  · have h := h.1 (c1)
    refine q_iconst d_Te_at_21 (by decide) ?_
    exact q_iret d_Te_at_22 (Or.inl rfl) ⟨Nat.le_refl _, Nat.le_refl _⟩ h
  · have h := h.2 (c1)
    refine q_iload_n d_Te_at_4 rfl ?_
    refine q_aload_n d_Te_at_5 rfl ?_
    refine p_getI (k := 1) zc_Te l_Te_26 fi_Te_length d_Te_at_6 zk_703 ?_
    refine q_icmp_ge (tgt := 21) d_Te_at_9 (by decide) (fun c2 => ?_) (fun c2 => ?_)
    · have h := h.1 (c2)
      refine q_iconst d_Te_at_21 (by decide) ?_
      exact q_iret d_Te_at_22 (Or.inl rfl) ⟨Nat.le_refl _, Nat.le_refl _⟩ h
    · have h := h.2 (c2)
      obtain ⟨o3, h⟩ := h
      refine q_aload_n d_Te_at_12 rfl ?_
      refine p_getR (k := 0) (b := 704) zc_Te l_Te_9 fr_Te_characters d_Te_at_13 zk_703 rfl ?_
      refine q_iload_n d_Te_at_16 rfl ?_
      refine p_cald d_Te_at_17 zk_704 o3 ?_
      refine q_goto (tgt := 22) d_Te_at_18 (by decide) ?_
      exact q_iret d_Te_at_22 (Or.inl rfl) ⟨Nat.le_refl _, Nat.le_refl _⟩ h
theorem s_Te_write_0 {a1 : Nat} (k_a1 : zk a1 = (0, 4, 0)) (h : (∀ D1, D1 = zw D 703 1 0 → CV g M_Te_writeNumber [vR 703, vR (a1 + 1)] D1 (fun D' => Sg g M_Te_write Q 13 [vR 703, vR a1] [] D'))) : Sg g M_Te_write Q 0 [vR 703, vR a1] [] D := by
  unfold Sg
  refine q_aload_n d_Te_write_0 rfl ?_
  refine q_iconst d_Te_write_1 (by decide) ?_
  refine p_putI (k := 1) zc_Te l_Te_26 fp_Te_length (Or.inl rfl) d_Te_write_2 zk_703 (fun D1 e2 => ?_)
  have h := h D1 e2
  refine q_aload_n d_Te_write_5 rfl ?_
  refine q_aload_n d_Te_write_6 rfl ?_
  refine p_getRN (k := 0) (b := (a1 + 1)) zc_Fr l_Te_30 fr_Fr_top d_Te_write_7 k_a1 rfl ?_
  refine p_callV (as := [vR (a1 + 1)]) (st := []) (a := 703) mc_Te_writeNumber mv_Te_writeNumber l_Te_35 zc_Te rfl d_Te_write_10 rfl rfl rfl zk_703 (CV.to ?_)
  exact h
theorem s_Te_write_13 {a1 : Nat} (k_a1 : zk a1 = (0, 4, 0)) (h : CI g M_Na_isOne [vR (a1 + 3)] D (fun v1 D' => Sg g M_Te_write Q 20 [vR 703, vR a1] [vI v1] D')) : Sg g M_Te_write Q 13 [vR 703, vR a1] [] D := by
  unfold Sg
  refine q_aload_n d_Te_write_13 rfl ?_
  refine p_getRN (k := 1) (b := (a1 + 3)) zc_Fr l_Te_39 fr_Fr_below d_Te_write_14 k_a1 rfl ?_
  refine p_callV (as := []) (st := []) (a := (a1 + 3)) mc_Na_isOne mv_Na_isOne l_Te_42 zc_Na rfl d_Te_write_17 rfl rfl rfl (zs_Fr_below k_a1) (CI.to ?_)
  exact h
theorem s_Te_write_20 {a1 : Nat} {y0 : Int} (k_a1 : zk a1 = (0, 4, 0)) (h : ((¬ y0 = 0 → Sg g M_Te_write Q 37 [vR 703, vR a1] [] D) ∧ (y0 = 0 → CV g M_Te_push [vR 703, vI 47] D (fun D' => Sg g M_Te_write Q 29 [vR 703, vR a1] [] D')))) : Sg g M_Te_write Q 20 [vR 703, vR a1] [vI y0] D := by
  unfold Sg
  refine q_if_ne (tgt := 37) d_Te_write_20 (by decide) (fun c1 => ?_) (fun c1 => ?_)
  · have h := h.1 (c1)
    exact h
  · have h := h.2 (c1)
    refine q_aload_n d_Te_write_23 rfl ?_
    refine q_bipush d_Te_write_24 kb_47 ?_
    refine p_callV (as := [vI 47]) (st := []) (a := 703) mc_Te_push mv_Te_push l_Te_46 zc_Te rfl d_Te_write_26 rfl rfl rfl zk_703 (CV.to ?_)
    exact h
theorem s_Te_write_37 {z1 : VV}  (h : Q (some (vI (D 703 1))) zE D) : Sg g M_Te_write Q 37 [vR 703, z1] [] D := by
  unfold Sg
  refine q_mask [false, true] (L' := [vR 703, vU]) rfl ?_
  refine q_aload_n d_Te_write_37 rfl ?_
  refine p_getI (k := 1) zc_Te l_Te_26 fi_Te_length d_Te_write_38 zk_703 ?_
  exact q_iret d_Te_write_41 (Or.inl rfl) ⟨Nat.le_refl _, Nat.le_refl _⟩ h
theorem s_Te_write_29 {a1 : Nat} (k_a1 : zk a1 = (0, 4, 0)) (h : CV g M_Te_writeNumber [vR 703, vR (a1 + 3)] D (fun D' => Sg g M_Te_write Q 37 [vR 703, vR a1] [] D')) : Sg g M_Te_write Q 29 [vR 703, vR a1] [] D := by
  unfold Sg
  refine q_aload_n d_Te_write_29 rfl ?_
  refine q_aload_n d_Te_write_30 rfl ?_
  refine p_getRN (k := 1) (b := (a1 + 3)) zc_Fr l_Te_39 fr_Fr_below d_Te_write_31 k_a1 rfl ?_
  refine p_callV (as := [vR (a1 + 3)]) (st := []) (a := 703) mc_Te_writeNumber mv_Te_writeNumber l_Te_35 zc_Te rfl d_Te_write_34 rfl rfl rfl zk_703 (CV.to ?_)
  exact h
theorem s_Te_writeNumber_0 {a1 : Nat} (k_a1 : zk a1 = (0, 3, 0)) (h : CV g M_Na_copyFrom [vR 706, vR a1] D (fun D' => Sg g M_Te_writeNumber Q 10 [vR 703, vR a1, vI 0, vU] [] D')) : Sg g M_Te_writeNumber Q 0 [vR 703, vR a1, vU, vU] [] D := by
  unfold Sg
  refine q_iconst d_Te_writeNumber_0 (by decide) ?_
  refine q_istore_n d_Te_writeNumber_1 (by decide) (L' := [vR 703, vR a1, vI 0, vU]) rfl ?_
  refine q_aload_n d_Te_writeNumber_2 rfl ?_
  refine p_getR (k := 3) (b := 706) zc_Te l_Te_22 fr_Te_rest d_Te_writeNumber_3 zk_703 rfl ?_
  refine q_aload_n d_Te_writeNumber_6 rfl ?_
  refine p_callV (as := [vR a1]) (st := []) (a := 706) mc_Na_copyFrom mv_Na_copyFrom l_Te_50 zc_Na rfl d_Te_writeNumber_7 rfl rfl rfl zk_706 (CV.to ?_)
  exact h
theorem s_Te_writeNumber_10 {z1 : VV} {x2 : Int} {z3 : VV}  (h : ((40 ≤ x2 → Sg g M_Te_writeNumber Q 51 [vR 703, vU, vI x2, vU] [] D) ∧ (¬ 40 ≤ x2 → ((x2 = 0 → Sg g M_Te_writeNumber Q 30 [vR 703, vU, vI x2, vU] [] D) ∧ (¬ x2 = 0 → CI g M_Na_isZero [vR 706] D (fun v3 D' => Sg g M_Te_writeNumber Q 27 [vR 703, vU, vI x2, vU] [vI v3] D')))))) : Sg g M_Te_writeNumber Q 10 [vR 703, z1, vI x2, z3] [] D := by
  unfold Sg
  refine q_mask [false, true, false, true] (L' := [vR 703, vU, vI x2, vU]) rfl ?_
  refine q_iload_n d_Te_writeNumber_10 rfl ?_
  refine q_bipush d_Te_writeNumber_11 kb_40 ?_
  refine q_icmp_ge (tgt := 51) d_Te_writeNumber_13 (by decide) (fun c1 => ?_) (fun c1 => ?_)
  · have h := h.1 (c1)
    exact h
  · have h := h.2 (c1)
    refine q_iload_n d_Te_writeNumber_16 rfl ?_
    refine q_if_eq (tgt := 30) d_Te_writeNumber_17 (by decide) (fun c2 => ?_) (fun c2 => ?_)
    · have h := h.1 (c2)
      exact h
    · have h := h.2 (c2)
      refine q_aload_n d_Te_writeNumber_20 rfl ?_
      refine p_getR (k := 3) (b := 706) zc_Te l_Te_22 fr_Te_rest d_Te_writeNumber_21 zk_703 rfl ?_
      refine p_callV (as := []) (st := []) (a := 706) mc_Na_isZero mv_Na_isZero l_Te_53 zc_Na rfl d_Te_writeNumber_24 rfl rfl rfl zk_706 (CI.to ?_)
      exact h
theorem s_Te_writeNumber_51 {z1 : VV} {x2 : Int} {z3 : VV}  (h : (R32 (x2 - 1)) ∧ Sg g M_Te_writeNumber Q 55 [vR 703, vU, vI x2, vI (x2 - 1)] [] D) : Sg g M_Te_writeNumber Q 51 [vR 703, z1, vI x2, z3] [] D := by
  unfold Sg
  refine q_mask [false, true, false, true] (L' := [vR 703, vU, vI x2, vU]) rfl ?_
  obtain ⟨o1, h⟩ := h
  refine q_iload_n d_Te_writeNumber_51 rfl ?_
  refine q_iconst d_Te_writeNumber_52 (by decide) ?_
  refine q_isub d_Te_writeNumber_53 o1 ?_
  refine q_istore_n d_Te_writeNumber_54 (by decide) (L' := [vR 703, vU, vI x2, vI (x2 - 1)]) rfl ?_
  exact h
theorem s_Te_writeNumber_30 {z1 : VV} {x2 : Int} {z3 : VV}  (h : CI g M_Na_divideSmall [vR 706, vI 1000000000] D (fun v1 D' => Sg g M_Te_writeNumber Q 44 [vR 703, vU, vI x2, vU] [vI v1, vI x2, vR 705] D')) : Sg g M_Te_writeNumber Q 30 [vR 703, z1, vI x2, z3] [] D := by
  unfold Sg
  refine q_mask [false, true, false, true] (L' := [vR 703, vU, vI x2, vU]) rfl ?_
  refine q_aload_n d_Te_writeNumber_30 rfl ?_
  refine p_getR (k := 2) (b := 705) zc_Te l_Te_15 fr_Te_chunks d_Te_writeNumber_31 zk_703 rfl ?_
  refine q_iload_n d_Te_writeNumber_34 rfl ?_
  refine q_aload_n d_Te_writeNumber_35 rfl ?_
  refine p_getR (k := 3) (b := 706) zc_Te l_Te_22 fr_Te_rest d_Te_writeNumber_36 zk_703 rfl ?_
  refine q_ldc (x := 1000000000) l_Te_56 d_Te_writeNumber_39 (by decide) ?_
  refine p_callV (as := [vI 1000000000]) (st := [vI x2, vR 705]) (a := 706) mc_Na_divideSmall mv_Na_divideSmall l_Te_57 zc_Na rfl d_Te_writeNumber_41 rfl rfl rfl zk_706 (CI.to ?_)
  exact h
theorem s_Te_writeNumber_27 {z1 : VV} {x2 : Int} {z3 : VV} {y0 : Int}  (h : ((¬ y0 = 0 → Sg g M_Te_writeNumber Q 51 [vR 703, vU, vI x2, vU] [] D) ∧ (y0 = 0 → Sg g M_Te_writeNumber Q 30 [vR 703, vU, vI x2, vU] [] D))) : Sg g M_Te_writeNumber Q 27 [vR 703, z1, vI x2, z3] [vI y0] D := by
  unfold Sg
  refine q_mask [false, true, false, true] (L' := [vR 703, vU, vI x2, vU]) rfl ?_
  refine q_if_ne (tgt := 51) d_Te_writeNumber_27 (by decide) (fun c1 => ?_) (fun c1 => ?_)
  · have h := h.1 (c1)
    exact h
  · have h := h.2 (c1)
    exact h
theorem s_Te_writeNumber_55 {z1 : VV} {x2 : Int} {x3 : Int}  (h : ((x3 < 0 → Q none zE D) ∧ (¬ x3 < 0 → ((0 ≤ x3 ∧ x3 < 40) ∧ R32 (x2 - 1)) ∧ (((x2 - 1) ≤ x3 → Sg g M_Te_writeNumber Q 78 [vR 703, vU, vI x2, vI x3] [vI 0, vI (D 705 x3), vR 703] D) ∧ (¬ (x2 - 1) ≤ x3 → Sg g M_Te_writeNumber Q 78 [vR 703, vU, vI x2, vI x3] [vI 1, vI (D 705 x3), vR 703] D))))) : Sg g M_Te_writeNumber Q 55 [vR 703, z1, vI x2, vI x3] [] D := by
  unfold Sg
  refine q_mask [false, true, false, false] (L' := [vR 703, vU, vI x2, vI x3]) rfl ?_
  refine q_iload_n d_Te_writeNumber_55 rfl ?_
  refine q_if_lt (tgt := 87) d_Te_writeNumber_56 (by decide) (fun c1 => ?_) (fun c1 => ?_)
  · have h := h.1 (c1)
    exact q_vret d_Te_writeNumber_87 rfl ⟨Nat.le_refl _, Nat.le_refl _⟩ h
  · have h := h.2 (c1)
    obtain ⟨⟨o2, o3⟩, h⟩ := h
    refine q_aload_n d_Te_writeNumber_59 rfl ?_
    refine q_aload_n d_Te_writeNumber_60 rfl ?_
    refine p_getR (k := 2) (b := 705) zc_Te l_Te_15 fr_Te_chunks d_Te_writeNumber_61 zk_703 rfl ?_
    refine q_iload_n d_Te_writeNumber_64 rfl ?_
    refine p_iald d_Te_writeNumber_65 zk_705 o2 ?_
    refine q_iload_n d_Te_writeNumber_66 rfl ?_
    refine q_iload_n d_Te_writeNumber_67 rfl ?_
    refine q_iconst d_Te_writeNumber_68 (by decide) ?_
    refine q_isub d_Te_writeNumber_69 o3 ?_
    refine q_icmp_ge (tgt := 77) d_Te_writeNumber_70 (by decide) (fun c4 => ?_) (fun c4 => ?_)
    · have h := h.1 (c4)
      refine q_iconst d_Te_writeNumber_77 (by decide) ?_
      exact h
    · have h := h.2 (c4)
      refine q_iconst d_Te_writeNumber_73 (by decide) ?_
      refine q_goto (tgt := 78) d_Te_writeNumber_74 (by decide) ?_
      exact h
theorem s_Te_writeNumber_44 {z1 : VV} {x2 : Int} {z3 : VV} {y0 : Int} {y1 : Int}  (h : ((0 ≤ y1 ∧ y1 < 40)) ∧ (∀ D2, D2 = zw D 705 y1 y0 → (R32 (x2 + 1)) ∧ Sg g M_Te_writeNumber Q 10 [vR 703, vU, vI (x2 + 1), vU] [] D2)) : Sg g M_Te_writeNumber Q 44 [vR 703, z1, vI x2, z3] [vI y0, vI y1, vR 705] D := by
  unfold Sg
  refine q_mask [false, true, false, true] (L' := [vR 703, vU, vI x2, vU]) rfl ?_
  obtain ⟨o1, h⟩ := h
  refine p_iast d_Te_writeNumber_44 zk_705 o1 (fun D2 e3 => ?_)
  have h := h D2 e3
  obtain ⟨o4, h⟩ := h
  refine q_iinc d_Te_writeNumber_45 rfl (by decide) o4 (L' := [vR 703, vU, vI (x2 + 1), vU]) rfl ?_
  refine q_goto (tgt := 10) d_Te_writeNumber_48 (by decide) ?_
  exact h
theorem s_Te_writeNumber_78 {z1 : VV} {x2 : Int} {x3 : Int} {y0 : Int} {y1 : Int}  (h : CV g M_Te_writeChunk [vR 703, vI y1, vI y0] D (fun D' => Sg g M_Te_writeNumber Q 81 [vR 703, vU, vI x2, vI x3] [] D')) : Sg g M_Te_writeNumber Q 78 [vR 703, z1, vI x2, vI x3] [vI y0, vI y1, vR 703] D := by
  unfold Sg
  refine q_mask [false, true, false, false] (L' := [vR 703, vU, vI x2, vI x3]) rfl ?_
  refine p_callV (as := [vI y1, vI y0]) (st := []) (a := 703) mc_Te_writeChunk mv_Te_writeChunk l_Te_61 zc_Te rfl d_Te_writeNumber_78 rfl rfl rfl zk_703 (CV.to ?_)
  exact h
theorem s_Te_writeNumber_81 {z1 : VV} {x2 : Int} {x3 : Int}  (h : (R32 (x3 + (-1))) ∧ Sg g M_Te_writeNumber Q 55 [vR 703, vU, vI x2, vI (x3 + (-1))] [] D) : Sg g M_Te_writeNumber Q 81 [vR 703, z1, vI x2, vI x3] [] D := by
  unfold Sg
  refine q_mask [false, true, false, false] (L' := [vR 703, vU, vI x2, vI x3]) rfl ?_
  obtain ⟨o1, h⟩ := h
  refine q_iinc d_Te_writeNumber_81 rfl (by decide) o1 (L' := [vR 703, vU, vI x2, vI (x3 + (-1))]) rfl ?_
  refine q_goto (tgt := 55) d_Te_writeNumber_84 (by decide) ?_
  exact h
theorem s_Te_writeChunk_0 {x1 : Int} {x2 : Int}  (h : Sg g M_Te_writeChunk Q 9 [vR 703, vI x1, vI x2, vI x2, vI 100000000, vI 0, vU] [] D) : Sg g M_Te_writeChunk Q 0 [vR 703, vI x1, vI x2, vU, vU, vU, vU] [] D := by
  unfold Sg
  refine q_iload_n d_Te_writeChunk_0 rfl ?_
  refine q_istore_n d_Te_writeChunk_1 (by decide) (L' := [vR 703, vI x1, vI x2, vI x2, vU, vU, vU]) rfl ?_
  refine q_ldc (x := 100000000) l_Te_65 d_Te_writeChunk_2 (by decide) ?_
  refine q_istore d_Te_writeChunk_4 (by decide) (L' := [vR 703, vI x1, vI x2, vI x2, vI 100000000, vU, vU]) rfl ?_
  refine q_iconst d_Te_writeChunk_6 (by decide) ?_
  refine q_istore d_Te_writeChunk_7 (by decide) (L' := [vR 703, vI x1, vI x2, vI x2, vI 100000000, vI 0, vU]) rfl ?_
  exact h
theorem s_Te_writeChunk_9 {x1 : Int} {z2 : VV} {x3 : Int} {x4 : Int} {x5 : Int} {z6 : VV}  (h : ((9 ≤ x5 → Q none zE D) ∧ (¬ 9 ≤ x5 → ((x4 ≤ 0 → Q none zE D) ∧ (¬ x4 ≤ 0 → ((0 ≤ x1 ∧ 0 < x4) ∧ 0 ≤ x1 / x4) ∧ ((¬ x3 = 0 → Sg g M_Te_writeChunk Q 45 [vR 703, vI x1, vU, vI x3, vI x4, vI x5, vI ((x1 / x4) % 10)] [] D) ∧ (x3 = 0 → ((¬ ((x1 / x4) % 10) = 0 → Sg g M_Te_writeChunk Q 45 [vR 703, vI x1, vU, vI x3, vI x4, vI x5, vI ((x1 / x4) % 10)] [] D) ∧ (((x1 / x4) % 10) = 0 → ((¬ x4 = 1 → Sg g M_Te_writeChunk Q 50 [vR 703, vI x1, vU, vI x3, vI x4, vI x5, vI ((x1 / x4) % 10)] [vI 0] D) ∧ (x4 = 1 → Sg g M_Te_writeChunk Q 45 [vR 703, vI x1, vU, vI x3, vI x4, vI x5, vI ((x1 / x4) % 10)] [] D))))))))))) : Sg g M_Te_writeChunk Q 9 [vR 703, vI x1, z2, vI x3, vI x4, vI x5, z6] [] D := by
  unfold Sg
  refine q_mask [false, false, true, false, false, false, true] (L' := [vR 703, vI x1, vU, vI x3, vI x4, vI x5, vU]) rfl ?_
  refine q_iload d_Te_writeChunk_9 rfl ?_
  refine q_bipush d_Te_writeChunk_11 kb_9 ?_
  refine q_icmp_ge (tgt := 78) d_Te_writeChunk_13 (by decide) (fun c1 => ?_) (fun c1 => ?_)
  · have h := h.1 (c1)
    exact q_vret d_Te_writeChunk_78 rfl ⟨Nat.le_refl _, Nat.le_refl _⟩ h
  · have h := h.2 (c1)
    refine q_iload d_Te_writeChunk_16 rfl ?_
    refine q_if_le (tgt := 78) d_Te_writeChunk_18 (by decide) (fun c2 => ?_) (fun c2 => ?_)
    · have h := h.1 (c2)
      exact q_vret d_Te_writeChunk_78 rfl ⟨Nat.le_refl _, Nat.le_refl _⟩ h
    · have h := h.2 (c2)
      obtain ⟨⟨o3, o4⟩, h⟩ := h
      refine q_iload_n d_Te_writeChunk_21 rfl ?_
      refine q_iload d_Te_writeChunk_22 rfl ?_
      refine q_idiv d_Te_writeChunk_24 o3 ?_
      refine q_bipush d_Te_writeChunk_25 kb_10 ?_
      refine q_irem d_Te_writeChunk_27 ⟨o4, by decide⟩ ?_
      refine q_istore d_Te_writeChunk_28 (by decide) (L' := [vR 703, vI x1, vU, vI x3, vI x4, vI x5, vI ((x1 / x4) % 10)]) rfl ?_
      refine q_iload_n d_Te_writeChunk_30 rfl ?_
      refine q_if_ne (tgt := 45) d_Te_writeChunk_31 (by decide) (fun c5 => ?_) (fun c5 => ?_)
      · have h := h.1 (c5)
        exact h
      · have h := h.2 (c5)
        refine q_iload d_Te_writeChunk_34 rfl ?_
        refine q_if_ne (tgt := 45) d_Te_writeChunk_36 (by decide) (fun c6 => ?_) (fun c6 => ?_)
        · have h := h.1 (c6)
          exact h
        · have h := h.2 (c6)
          refine q_iload d_Te_writeChunk_39 rfl ?_
          refine q_iconst d_Te_writeChunk_41 (by decide) ?_
          refine q_icmp_ne (tgt := 49) d_Te_writeChunk_42 (by decide) (fun c7 => ?_) (fun c7 => ?_)
          · have h := h.1 (c7)
            refine q_iconst d_Te_writeChunk_49 (by decide) ?_
            exact h
          · have h := h.2 (c7)
            exact h
theorem s_Te_writeChunk_45 {x1 : Int} {z2 : VV} {z3 : VV} {x4 : Int} {x5 : Int} {x6 : Int}  (h : Sg g M_Te_writeChunk Q 50 [vR 703, vI x1, vU, vU, vI x4, vI x5, vI x6] [vI 1] D) : Sg g M_Te_writeChunk Q 45 [vR 703, vI x1, z2, z3, vI x4, vI x5, vI x6] [] D := by
  unfold Sg
  refine q_mask [false, false, true, true, false, false, false] (L' := [vR 703, vI x1, vU, vU, vI x4, vI x5, vI x6]) rfl ?_
  refine q_iconst d_Te_writeChunk_45 (by decide) ?_
  refine q_goto (tgt := 50) d_Te_writeChunk_46 (by decide) ?_
  exact h
theorem s_Te_writeChunk_50 {x1 : Int} {z2 : VV} {z3 : VV} {x4 : Int} {x5 : Int} {x6 : Int} {y0 : Int}  (h : ((y0 = 0 → Sg g M_Te_writeChunk Q 65 [vR 703, vI x1, vU, vI y0, vI x4, vI x5, vI x6] [] D) ∧ (¬ y0 = 0 → (R32 (48 + x6) ∧ (0 ≤ 48 + x6 ∧ 48 + x6 < 65536)) ∧ CV g M_Te_push [vR 703, vI (48 + x6)] D (fun D' => Sg g M_Te_writeChunk Q 65 [vR 703, vI x1, vU, vI y0, vI x4, vI x5, vI x6] [] D')))) : Sg g M_Te_writeChunk Q 50 [vR 703, vI x1, z2, z3, vI x4, vI x5, vI x6] [vI y0] D := by
  unfold Sg
  refine q_mask [false, false, true, true, false, false, false] (L' := [vR 703, vI x1, vU, vU, vI x4, vI x5, vI x6]) rfl ?_
  refine q_istore_n d_Te_writeChunk_50 (by decide) (L' := [vR 703, vI x1, vU, vI y0, vI x4, vI x5, vI x6]) rfl ?_
  refine q_iload_n d_Te_writeChunk_51 rfl ?_
  refine q_if_eq (tgt := 65) d_Te_writeChunk_52 (by decide) (fun c1 => ?_) (fun c1 => ?_)
  · have h := h.1 (c1)
    exact h
  · have h := h.2 (c1)
    obtain ⟨⟨o2, o3⟩, h⟩ := h
    refine q_aload_n d_Te_writeChunk_55 rfl ?_
    refine q_bipush d_Te_writeChunk_56 kb_48 ?_
    refine q_iload d_Te_writeChunk_58 rfl ?_
    refine q_iadd d_Te_writeChunk_60 o2 ?_
    refine q_i2c d_Te_writeChunk_61 o3 ?_
    refine p_callV (as := [vI (48 + x6)]) (st := []) (a := 703) mc_Te_push mv_Te_push l_Te_46 zc_Te rfl d_Te_writeChunk_62 rfl rfl rfl zk_703 (CV.to ?_)
    exact h
theorem s_Te_writeChunk_65 {x1 : Int} {z2 : VV} {x3 : Int} {x4 : Int} {x5 : Int} {z6 : VV}  (h : (0 ≤ x4 ∧ R32 (x5 + 1)) ∧ Sg g M_Te_writeChunk Q 9 [vR 703, vI x1, vU, vI x3, vI (x4 / 10), vI (x5 + 1), vU] [] D) : Sg g M_Te_writeChunk Q 65 [vR 703, vI x1, z2, vI x3, vI x4, vI x5, z6] [] D := by
  unfold Sg
  refine q_mask [false, false, true, false, false, false, true] (L' := [vR 703, vI x1, vU, vI x3, vI x4, vI x5, vU]) rfl ?_
  obtain ⟨⟨o1, o2⟩, h⟩ := h
  refine q_iload d_Te_writeChunk_65 rfl ?_
  refine q_bipush d_Te_writeChunk_67 kb_10 ?_
  refine q_idiv d_Te_writeChunk_69 ⟨o1, by decide⟩ ?_
  refine q_istore d_Te_writeChunk_70 (by decide) (L' := [vR 703, vI x1, vU, vI x3, vI (x4 / 10), vI x5, vU]) rfl ?_
  refine q_iinc d_Te_writeChunk_72 rfl (by decide) o2 (L' := [vR 703, vI x1, vU, vI x3, vI (x4 / 10), vI (x5 + 1), vU]) rfl ?_
  refine q_goto (tgt := 9) d_Te_writeChunk_75 (by decide) ?_
  exact h
theorem s_Te_push_0 {x1 : Int}  (h : ((721 ≤ (D 703 1) → Q none zE D) ∧ (¬ 721 ≤ (D 703 1) → ((0 ≤ D 703 1 ∧ D 703 1 < 721) ∧ (0 ≤ x1 ∧ x1 < 65536)) ∧ (∀ D4, D4 = zw D 704 (D 703 1) x1 → (R32 ((D4 703 1) + 1)) ∧ (∀ D7, D7 = zw D4 703 1 ((D4 703 1) + 1) → Q none zE D7))))) : Sg g M_Te_push Q 0 [vR 703, vI x1] [] D := by
  unfold Sg
  refine q_aload_n d_Te_push_0 rfl ?_
  refine p_getI (k := 1) zc_Te l_Te_26 fi_Te_length d_Te_push_1 zk_703 ?_
  refine q_sipush d_Te_push_4 ks_721 ?_
  refine q_icmp_ge (tgt := 30) d_Te_push_7 (by decide) (fun c1 => ?_) (fun c1 => ?_)
  · have h := h.1 (c1)
    exact q_vret d_Te_push_30 rfl ⟨Nat.le_refl _, Nat.le_refl _⟩ h
  · have h := h.2 (c1)
    obtain ⟨⟨o2, o3⟩, h⟩ := h
    refine q_aload_n d_Te_push_10 rfl ?_
    refine p_getR (k := 0) (b := 704) zc_Te l_Te_9 fr_Te_characters d_Te_push_11 zk_703 rfl ?_
    refine q_aload_n d_Te_push_14 rfl ?_
    refine p_getI (k := 1) zc_Te l_Te_26 fi_Te_length d_Te_push_15 zk_703 ?_
    refine q_iload_n d_Te_push_18 rfl ?_
    refine p_cast d_Te_push_19 zk_704 o2 o3 (fun D4 e5 => ?_)
    have h := h D4 e5
    obtain ⟨o6, h⟩ := h
    refine q_aload_n d_Te_push_20 rfl ?_
    refine q_dup d_Te_push_21 rfl ?_
    refine p_getI (k := 1) zc_Te l_Te_26 fi_Te_length d_Te_push_22 zk_703 ?_
    refine q_iconst d_Te_push_25 (by decide) ?_
    refine q_iadd d_Te_push_26 o6 ?_
    refine p_putI (k := 1) zc_Te l_Te_26 fp_Te_length (Or.inl rfl) d_Te_push_27 zk_703 (fun D7 e8 => ?_)
    have h := h D7 e8
    exact q_vret d_Te_push_30 rfl ⟨Nat.le_refl _, Nat.le_refl _⟩ h
end SEG
