/-! printed by wip/whole/tools/ini.py: Jobs, Levels, Text, the model made -/
section INI
variable {g : GG} {E : EE} {D : DD}
theorem zw_self {a : Nat} {i v : Int} (h : D a i = v) : zw D a i v = D := by
  funext b j
  unfold zw
  by_cases q : b = a ∧ j = i
  · rw [if_pos q, q.1, q.2, h]
  · rw [if_neg q]
theorem jo_init (s0 : ST E D 1) : AT g M_Jo_init 4 48 [vR 1] E D (fun r E' D' => r = none ∧ E' = eB E 1 5 ∧ D' = D) := by
  have hE := s0.2.1
  have hz := s0.2.2.2
  refine at_intro (L0 := [vR 1]) mc_Jo_init (Nat.le_of_ble_eq_true rfl) rfl (q_eC s0 ?_)
  refine q_aload_n d_Jo_init_0 rfl ?_
  refine q_objI l_Jo_3 zx_oi_linki zx_oi_linkc d_Jo_init_1 (by decide) ?_
  refine q_aload_n d_Jo_init_4 rfl ?_
  refine q_bipush d_Jo_init_5 (by decide) ?_
  refine q_fldI (k := 1) (ci := 1) (off := 1) (N0 := 2) (n := 12) (x0 := 0) (by decide +kernel) (by decide) d_Jo_init_7 (fun i j h => hz i j (by omega)) (by decide) zc_Jo l_Jo_9 (by decide +kernel) rfl rfl (by decide +kernel) d_Jo_init_9 (by decide +kernel) hE (by decide) rfl ?_
  refine q_aload_n d_Jo_init_12 rfl ?_
  refine q_bipush d_Jo_init_13 (by decide) ?_
  refine q_fldI (k := 2) (ci := 1) (off := 2) (N0 := 3) (n := 12) (x0 := 0) (by decide +kernel) (by decide) d_Jo_init_15 (fun i j h => hz i j (by omega)) (by decide) zc_Jo l_Jo_15 (by decide +kernel) rfl rfl (by decide +kernel) d_Jo_init_17 (by decide +kernel) hE (by decide) rfl ?_
  refine q_aload_n d_Jo_init_20 rfl ?_
  refine q_bipush d_Jo_init_21 (by decide) ?_
  refine q_fldI (k := 3) (ci := 1) (off := 3) (N0 := 4) (n := 12) (x0 := 0) (by decide +kernel) (by decide) d_Jo_init_23 (fun i j h => hz i j (by omega)) (by decide) zc_Jo l_Jo_18 (by decide +kernel) rfl rfl (by decide +kernel) d_Jo_init_25 (by decide +kernel) hE (by decide) rfl ?_
  refine q_aload_n d_Jo_init_28 rfl ?_
  refine q_bipush d_Jo_init_29 (by decide) ?_
  refine q_fldI (k := 4) (ci := 1) (off := 4) (N0 := 5) (n := 12) (x0 := 0) (by decide +kernel) (by decide) d_Jo_init_31 (fun i j h => hz i j (by omega)) (by decide) zc_Jo l_Jo_21 (by decide +kernel) rfl rfl (by decide +kernel) d_Jo_init_33 (by decide +kernel) hE (by decide) rfl ?_
  refine q_eCB (a := 1) (s := 5) (ci := 1) (x := 0) (by decide) (by decide +kernel) hE (by decide +kernel) (fun _ _ _ _ _ => rfl) ?_
  exact q_vret d_Jo_init_36 rfl (by decide) ⟨rfl, rfl, rfl⟩
theorem le_init (s0 : ST E D 6) : AT g M_Le_init 2 16 [vR 6] E D (fun r E' D' => r = none ∧ E' = eB E 6 3 ∧ D' = D) := by
  have hE := s0.2.1
  have hz := s0.2.2.2
  refine at_intro (L0 := [vR 6]) mc_Le_init (Nat.le_of_ble_eq_true rfl) rfl (q_eC s0 ?_)
  refine q_aload_n d_Le_init_0 rfl ?_
  refine q_objI l_Le_3 zx_oi_linki zx_oi_linkc d_Le_init_1 (by decide) ?_
  refine q_aload_n d_Le_init_4 rfl ?_
  refine q_bipush d_Le_init_5 (by decide) ?_
  refine q_fldI (k := 1) (ci := 2) (off := 1) (N0 := 7) (n := 8) (x0 := 0) (by decide +kernel) (by decide) d_Le_init_7 (fun i j h => hz i j (by omega)) (by decide) zc_Le l_Le_9 (by decide +kernel) rfl rfl (by decide +kernel) d_Le_init_9 (by decide +kernel) hE (by decide) rfl ?_
  refine q_aload_n d_Le_init_12 rfl ?_
  refine q_bipush d_Le_init_13 (by decide) ?_
  refine q_fldI (k := 2) (ci := 2) (off := 2) (N0 := 8) (n := 8) (x0 := 0) (by decide +kernel) (by decide) d_Le_init_15 (fun i j h => hz i j (by omega)) (by decide) zc_Le l_Le_15 (by decide +kernel) rfl rfl (by decide +kernel) d_Le_init_17 (by decide +kernel) hE (by decide) rfl ?_
  refine q_eCB (a := 6) (s := 3) (ci := 2) (x := 0) (by decide) (by decide +kernel) hE (by decide +kernel) (fun _ _ _ _ _ => rfl) ?_
  exact q_vret d_Le_init_20 rfl (by decide) ⟨rfl, rfl, rfl⟩
theorem te_init (s0 : ST E D 703) : AT g M_Te_init 4 795 [vR 703] E D (fun r E' D' => r = none ∧ E' = eB E 703 5 ∧ D' = D) := by
  have hE := s0.2.1
  have hz := s0.2.2.2
  refine at_intro (L0 := [vR 703]) mc_Te_init (Nat.le_of_ble_eq_true rfl) rfl (q_eC s0 ?_)
  refine q_aload_n d_Te_init_0 rfl ?_
  refine q_objI l_Te_3 zx_oi_linki zx_oi_linkc d_Te_init_1 (by decide) ?_
  refine q_aload_n d_Te_init_4 rfl ?_
  refine q_sipush d_Te_init_5 (by decide) ?_
  refine q_fldC (k := 0) (ci := 10) (off := 1) (N0 := 704) (n := 721) (x0 := 0) (by decide +kernel) (by decide) d_Te_init_8 (fun i j h => hz i j (by omega)) (by decide) zc_Te l_Te_9 (by decide +kernel) rfl rfl (by decide +kernel) d_Te_init_10 (by decide +kernel) hE (by decide) rfl ?_
  refine q_aload_n d_Te_init_13 rfl ?_
  refine q_bipush d_Te_init_14 (by decide) ?_
  refine q_fldI (k := 2) (ci := 10) (off := 2) (N0 := 705) (n := 40) (x0 := 0) (by decide +kernel) (by decide) d_Te_init_16 (fun i j h => hz i j (by omega)) (by decide) zc_Te l_Te_15 (by decide +kernel) rfl rfl (by decide +kernel) d_Te_init_18 (by decide +kernel) hE (by decide) rfl ?_
  refine q_aload_n d_Te_init_21 rfl ?_
  refine q_subN (b := 706) (t := 0) (P := fun D D' => D' = D) zc_Na zdv_Na zi_Na l_Te_19 d_Te_init_22 d_Te_init_25 d_Te_init_26 mc_Na_init mi_Na_init rfl l_Te_21 rfl (by decide +kernel) rfl hE (fun i k h => eC_out ⟨by decide, h⟩) (fun i j h => hz i j (by omega)) (by decide) (na_init (by decide +kernel)) ?_
  rintro _ rfl
  refine q_fldO (k := 3) (ci := 10) (off := 3) (N0 := 706) (s := 2) zc_Te l_Te_22 (by decide +kernel) rfl rfl (ty := .object "SpeedKernel$Natural") (by decide +kernel) (fun _ => rfl) (fun _ => rfl) d_Te_init_29 (by decide +kernel) hE (by decide) rfl (fun _ _ _ _ _ => rfl) ?_
  refine q_eCB (a := 703) (s := 5) (ci := 10) (x := 0) (by decide) (by decide +kernel) hE (by decide +kernel) (fun _ _ _ _ _ => rfl) ?_
  exact q_vret d_Te_init_32 rfl (by decide) ⟨rfl, rfl, rfl⟩
theorem mo_init (s0 : ST E D 708) : AT g M_Mo_init 25 29528 [vR 708] E D (fun r E' D' => r = none ∧ E' = eB E 708 26 ∧ D' = D) := by
  have hE := s0.2.1
  have hz := s0.2.2.2
  refine at_intro (L0 := [vR 708]) mc_Mo_init (Nat.le_of_ble_eq_true rfl) rfl (q_eC s0 ?_)
  refine q_aload_n d_Mo_init_0 rfl ?_
  refine q_objI l_Mo_1 zx_oi_linki zx_oi_linkc d_Mo_init_1 (by decide) ?_
  refine q_aload_n d_Mo_init_4 rfl ?_
  refine q_sipush d_Mo_init_5 (by decide) ?_
  refine q_fldI (k := 1) (ci := 11) (off := 1) (N0 := 709) (n := 26000) (x0 := 0) (by decide +kernel) (by decide) d_Mo_init_8 (fun i j h => hz i j (by omega)) (by decide) zc_Mo l_Mo_7 (by decide +kernel) rfl rfl (by decide +kernel) d_Mo_init_10 (by decide +kernel) hE (by decide) rfl ?_
  refine q_aload_n d_Mo_init_13 rfl ?_
  refine q_sipush d_Mo_init_14 (by decide) ?_
  refine q_fldI (k := 2) (ci := 11) (off := 2) (N0 := 710) (n := 260) (x0 := 0) (by decide +kernel) (by decide) d_Mo_init_17 (fun i j h => hz i j (by omega)) (by decide) zc_Mo l_Mo_13 (by decide +kernel) rfl rfl (by decide +kernel) d_Mo_init_19 (by decide +kernel) hE (by decide) rfl ?_
  refine q_aload_n d_Mo_init_22 rfl ?_
  refine q_bipush d_Mo_init_23 (by decide) ?_
  refine q_fldI (k := 4) (ci := 11) (off := 3) (N0 := 711) (n := 12) (x0 := 0) (by decide +kernel) (by decide) d_Mo_init_25 (fun i j h => hz i j (by omega)) (by decide) zc_Mo l_Mo_16 (by decide +kernel) rfl rfl (by decide +kernel) d_Mo_init_27 (by decide +kernel) hE (by decide) rfl ?_
  refine q_aload_n d_Mo_init_30 rfl ?_
  refine q_bipush d_Mo_init_31 (by decide) ?_
  refine q_fldI (k := 5) (ci := 11) (off := 4) (N0 := 712) (n := 12) (x0 := 0) (by decide +kernel) (by decide) d_Mo_init_33 (fun i j h => hz i j (by omega)) (by decide) zc_Mo l_Mo_19 (by decide +kernel) rfl rfl (by decide +kernel) d_Mo_init_35 (by decide +kernel) hE (by decide) rfl ?_
  refine q_aload_n d_Mo_init_38 rfl ?_
  refine q_bipush d_Mo_init_39 (by decide) ?_
  refine q_fldI (k := 6) (ci := 11) (off := 5) (N0 := 713) (n := 12) (x0 := 0) (by decide +kernel) (by decide) d_Mo_init_41 (fun i j h => hz i j (by omega)) (by decide) zc_Mo l_Mo_22 (by decide +kernel) rfl rfl (by decide +kernel) d_Mo_init_43 (by decide +kernel) hE (by decide) rfl ?_
  refine q_aload_n d_Mo_init_46 rfl ?_
  refine q_bipush d_Mo_init_47 (by decide) ?_
  refine q_fldI (k := 8) (ci := 11) (off := 6) (N0 := 714) (n := 8) (x0 := 0) (by decide +kernel) (by decide) d_Mo_init_49 (fun i j h => hz i j (by omega)) (by decide) zc_Mo l_Mo_25 (by decide +kernel) rfl rfl (by decide +kernel) d_Mo_init_51 (by decide +kernel) hE (by decide) rfl ?_
  refine q_aload_n d_Mo_init_54 rfl ?_
  refine q_bipush d_Mo_init_55 (by decide) ?_
  refine q_fldI (k := 9) (ci := 11) (off := 7) (N0 := 715) (n := 8) (x0 := 0) (by decide +kernel) (by decide) d_Mo_init_57 (fun i j h => hz i j (by omega)) (by decide) zc_Mo l_Mo_28 (by decide +kernel) rfl rfl (by decide +kernel) d_Mo_init_59 (by decide +kernel) hE (by decide) rfl ?_
  refine q_aload_n d_Mo_init_62 rfl ?_
  refine q_sipush d_Mo_init_63 (by decide) ?_
  refine q_fldZ (k := 13) (ci := 11) (off := 8) (N0 := 716) (n := 200) (x0 := 0) (by decide +kernel) (by decide) d_Mo_init_66 (fun i j h => hz i j (by omega)) (by decide) zc_Mo l_Mo_31 (by decide +kernel) rfl rfl (by decide +kernel) d_Mo_init_68 (by decide +kernel) hE (by decide) rfl ?_
  refine q_aload_n d_Mo_init_71 rfl ?_
  refine q_sipush d_Mo_init_72 (by decide) ?_
  refine q_fldJ (k := 14) (ci := 11) (off := 9) (N0 := 717) (n := 200) (x0 := 0) (by decide +kernel) (by decide) d_Mo_init_75 (fun i j h => hz i j (by omega)) (by decide) zc_Mo l_Mo_35 (by decide +kernel) rfl rfl (by decide +kernel) d_Mo_init_77 (by decide +kernel) hE (by decide) rfl ?_
  refine q_aload_n d_Mo_init_80 rfl ?_
  refine q_sipush d_Mo_init_81 (by decide) ?_
  refine q_fldJ (k := 15) (ci := 11) (off := 10) (N0 := 718) (n := 200) (x0 := 0) (by decide +kernel) (by decide) d_Mo_init_84 (fun i j h => hz i j (by omega)) (by decide) zc_Mo l_Mo_39 (by decide +kernel) rfl rfl (by decide +kernel) d_Mo_init_86 (by decide +kernel) hE (by decide) rfl ?_
  refine q_aload_n d_Mo_init_89 rfl ?_
  refine q_bipush d_Mo_init_90 (by decide) ?_
  refine q_fldZ (k := 16) (ci := 11) (off := 11) (N0 := 719) (n := 12) (x0 := 0) (by decide +kernel) (by decide) d_Mo_init_92 (fun i j h => hz i j (by omega)) (by decide) zc_Mo l_Mo_42 (by decide +kernel) rfl rfl (by decide +kernel) d_Mo_init_94 (by decide +kernel) hE (by decide) rfl ?_
  refine q_aload_n d_Mo_init_97 rfl ?_
  refine q_bipush d_Mo_init_98 (by decide) ?_
  refine q_fldJ (k := 17) (ci := 11) (off := 12) (N0 := 720) (n := 12) (x0 := 0) (by decide +kernel) (by decide) d_Mo_init_100 (fun i j h => hz i j (by omega)) (by decide) zc_Mo l_Mo_45 (by decide +kernel) rfl rfl (by decide +kernel) d_Mo_init_102 (by decide +kernel) hE (by decide) rfl ?_
  refine q_aload_n d_Mo_init_105 rfl ?_
  refine q_bipush d_Mo_init_106 (by decide) ?_
  refine q_fldJ (k := 18) (ci := 11) (off := 13) (N0 := 721) (n := 12) (x0 := 0) (by decide +kernel) (by decide) d_Mo_init_108 (fun i j h => hz i j (by omega)) (by decide) zc_Mo l_Mo_48 (by decide +kernel) rfl rfl (by decide +kernel) d_Mo_init_110 (by decide +kernel) hE (by decide) rfl ?_
  refine q_aload_n d_Mo_init_113 rfl ?_
  refine q_bipush d_Mo_init_114 (by decide) ?_
  refine q_fldJ (k := 19) (ci := 11) (off := 14) (N0 := 722) (n := 12) (x0 := 0) (by decide +kernel) (by decide) d_Mo_init_116 (fun i j h => hz i j (by omega)) (by decide) zc_Mo l_Mo_51 (by decide +kernel) rfl rfl (by decide +kernel) d_Mo_init_118 (by decide +kernel) hE (by decide) rfl ?_
  refine q_aload_n d_Mo_init_121 rfl ?_
  refine q_bipush d_Mo_init_122 (by decide) ?_
  refine q_fldI (k := 21) (ci := 11) (off := 15) (N0 := 723) (n := 24) (x0 := 0) (by decide +kernel) (by decide) d_Mo_init_124 (fun i j h => hz i j (by omega)) (by decide) zc_Mo l_Mo_54 (by decide +kernel) rfl rfl (by decide +kernel) d_Mo_init_126 (by decide +kernel) hE (by decide) rfl ?_
  refine q_aload_n d_Mo_init_129 rfl ?_
  refine q_bipush d_Mo_init_130 (by decide) ?_
  refine q_fldI (k := 22) (ci := 11) (off := 16) (N0 := 724) (n := 24) (x0 := 0) (by decide +kernel) (by decide) d_Mo_init_132 (fun i j h => hz i j (by omega)) (by decide) zc_Mo l_Mo_57 (by decide +kernel) rfl rfl (by decide +kernel) d_Mo_init_134 (by decide +kernel) hE (by decide) rfl ?_
  refine q_aload_n d_Mo_init_137 rfl ?_
  refine q_bipush d_Mo_init_138 (by decide) ?_
  refine q_fldJ (k := 23) (ci := 11) (off := 17) (N0 := 725) (n := 24) (x0 := 0) (by decide +kernel) (by decide) d_Mo_init_140 (fun i j h => hz i j (by omega)) (by decide) zc_Mo l_Mo_60 (by decide +kernel) rfl rfl (by decide +kernel) d_Mo_init_142 (by decide +kernel) hE (by decide) rfl ?_
  refine q_aload_n d_Mo_init_145 rfl ?_
  refine q_bipush d_Mo_init_146 (by decide) ?_
  refine q_fldJ (k := 24) (ci := 11) (off := 18) (N0 := 726) (n := 24) (x0 := 0) (by decide +kernel) (by decide) d_Mo_init_148 (fun i j h => hz i j (by omega)) (by decide) zc_Mo l_Mo_63 (by decide +kernel) rfl rfl (by decide +kernel) d_Mo_init_150 (by decide +kernel) hE (by decide) rfl ?_
  refine q_aload_n d_Mo_init_153 rfl ?_
  refine q_sipush d_Mo_init_154 (by decide) ?_
  refine q_fldI (k := 25) (ci := 11) (off := 19) (N0 := 727) (n := 200) (x0 := 0) (by decide +kernel) (by decide) d_Mo_init_157 (fun i j h => hz i j (by omega)) (by decide) zc_Mo l_Mo_66 (by decide +kernel) rfl rfl (by decide +kernel) d_Mo_init_159 (by decide +kernel) hE (by decide) rfl ?_
  refine q_aload_n d_Mo_init_162 rfl ?_
  refine q_bipush d_Mo_init_163 (by decide) ?_
  refine q_fldI (k := 27) (ci := 11) (off := 20) (N0 := 728) (n := 24) (x0 := 0) (by decide +kernel) (by decide) d_Mo_init_165 (fun i j h => hz i j (by omega)) (by decide) zc_Mo l_Mo_69 (by decide +kernel) rfl rfl (by decide +kernel) d_Mo_init_167 (by decide +kernel) hE (by decide) rfl ?_
  refine q_aload_n d_Mo_init_170 rfl ?_
  refine q_bipush d_Mo_init_171 (by decide) ?_
  refine q_fldI (k := 28) (ci := 11) (off := 21) (N0 := 729) (n := 24) (x0 := 0) (by decide +kernel) (by decide) d_Mo_init_173 (fun i j h => hz i j (by omega)) (by decide) zc_Mo l_Mo_72 (by decide +kernel) rfl rfl (by decide +kernel) d_Mo_init_175 (by decide +kernel) hE (by decide) rfl ?_
  refine q_aload_n d_Mo_init_178 rfl ?_
  refine q_sipush d_Mo_init_179 (by decide) ?_
  refine q_fldI (k := 29) (ci := 11) (off := 22) (N0 := 730) (n := 200) (x0 := 0) (by decide +kernel) (by decide) d_Mo_init_182 (fun i j h => hz i j (by omega)) (by decide) zc_Mo l_Mo_75 (by decide +kernel) rfl rfl (by decide +kernel) d_Mo_init_184 (by decide +kernel) hE (by decide) rfl ?_
  refine q_aload_n d_Mo_init_187 rfl ?_
  refine q_bipush d_Mo_init_188 (by decide) ?_
  refine q_fldI (k := 30) (ci := 11) (off := 23) (N0 := 731) (n := 12) (x0 := 0) (by decide +kernel) (by decide) d_Mo_init_190 (fun i j h => hz i j (by omega)) (by decide) zc_Mo l_Mo_78 (by decide +kernel) rfl rfl (by decide +kernel) d_Mo_init_192 (by decide +kernel) hE (by decide) rfl ?_
  refine q_aload_n d_Mo_init_195 rfl ?_
  refine q_bipush d_Mo_init_196 (by decide) ?_
  refine q_fldI (k := 31) (ci := 11) (off := 24) (N0 := 732) (n := 12) (x0 := 0) (by decide +kernel) (by decide) d_Mo_init_198 (fun i j h => hz i j (by omega)) (by decide) zc_Mo l_Mo_81 (by decide +kernel) rfl rfl (by decide +kernel) d_Mo_init_200 (by decide +kernel) hE (by decide) rfl ?_
  refine q_aload_n d_Mo_init_203 rfl ?_
  refine q_sipush d_Mo_init_204 (by decide) ?_
  refine q_fldI (k := 32) (ci := 11) (off := 25) (N0 := 733) (n := 2000) (x0 := 0) (by decide +kernel) (by decide) d_Mo_init_207 (fun i j h => hz i j (by omega)) (by decide) zc_Mo l_Mo_84 (by decide +kernel) rfl rfl (by decide +kernel) d_Mo_init_209 (by decide +kernel) hE (by decide) rfl ?_
  refine q_aload_n d_Mo_init_212 rfl ?_
  refine q_iconst d_Mo_init_213 (by decide) ?_
  refine q_putI (k := 10) (ci := 11) (i := 10) zc_Mo l_Mo_87 (by decide +kernel) (Or.inr ⟨rfl, by decide, by decide⟩) d_Mo_init_214 (by decide +kernel) (by show 708 < 734; decide) (fun D1 e1 => ?_)
  obtain rfl : D1 = D := by rw [e1]; exact zw_self (s0.2.2.2 _ _ (by decide))
  refine q_eCB (a := 708) (s := 26) (ci := 11) (x := 0) (by decide) (by decide +kernel) hE (by decide +kernel) (fun _ _ _ _ _ => rfl) ?_
  exact q_vret d_Mo_init_217 rfl (by decide) ⟨rfl, rfl, rfl⟩
end INI
