/-! Planner, Foresight made -/
section PLI
variable {g : GG} {M M' : MI} {mc ms mc' ms' : Nat} {pc : Nat} {L st : List VV} {E E0 : EE} {D D0 : DD} {ca sa : Nat} {F : Nat → Bool} {X : Nat → Nat → Bool} {Q : Option VV → EE → DD → Prop} {a : Nat}
theorem pl_iloop (hE : E0.2.2) (hF : F 3 = true) (hz : ∀ i j, 470 ≤ i → D0 i j = 0)
    (hk : ∀ D, DL 470 530 D0 D → Zg g M_Pl_init 72 1371 Q 101 [vR 457, vI 12] [] (eC E0 457 (530) F (updX (fun _ _ => true) 460 12)) D (12 + 12 * 5) (531 + 12 * 70)) :
    ∀ (m j : Nat) (D : DD), j + m = 12 → DL 470 (470 + 5 * j) D0 D → Zg g M_Pl_init 72 1371 Q 76 [vR 457, vI j] [] (eC E0 457 (470 + 5 * j) F (updX (fun _ _ => true) 460 j)) D (12 + j * 5) (531 + j * 70) := by
  intro m
  induction m with
  | zero =>
    intro j D hm hD
    obtain rfl : j = 12 := by omega
    refine q_iload_n d_Pl_init_76 rfl ?_
    refine q_bipush d_Pl_init_77 (by decide) ?_
    exact q_icmp_ge (tgt := 101) d_Pl_init_79 (by decide) (fun _ => hk D hD) (fun q => by omega)
  | succ m ih =>
    intro j D hm hD
    refine q_iload_n d_Pl_init_76 rfl ?_
    refine q_bipush d_Pl_init_77 (by decide) ?_
    refine q_icmp_ge (tgt := 101) d_Pl_init_79 (by decide) (fun q => by omega) (fun _ => ?_)
    refine q_aload_n d_Pl_init_82 rfl ?_
    refine q_getR (k := 3) (off := 3) zc_Pl l_Pl_20 (by decide +kernel) d_Pl_init_83 (by decide +kernel) (by show 457 < 470 + 5 * j; omega) (by rw [eC_at]; exact hF) ?_
    refine q_iload_n d_Pl_init_86 rfl ?_
    have zr : zk (470 + 5 * j) = (0, 4, 0) := by
      have : ∀ j : Fin 12, zk (470 + 5 * j.val) = (0, 4, 0) := by decide +kernel
      exact this ⟨j, by omega⟩
    refine q_eltF (N := 470 + 5 * j) (k0 := 5) (t := 3) (n := 12) l_Pl_18 l_Pl_36 rfl d_Pl_init_87 d_Pl_init_90 d_Pl_init_91 d_Pl_init_94 rfl (show zk 460 = (5, 12, 3) by decide +kernel) (by omega) zr (by show 470 + 5 * j = 460 + 10 + 5 * j; omega) (by omega) hE (fun i k h => by rw [hD i (by omega)]; exact hz i k (by omega)) (by omega) (fun i k h1 h2 _ => rfl) ?_
    intro D' e
    refine q_iinc (x := j) (n := 1) d_Pl_init_95 rfl (by decide) (by unfold R32; omega) (L' := [vR 457, vI ((j + 1 : Nat) : Int)]) rfl ?_
    refine q_goto (tgt := 76) d_Pl_init_98 (by decide) ?_
    have go := ih (j + 1) D' (by omega) fun c hc => by rw [e, oneD_off (by omega)]; exact hD c (by omega)
    rw [show 470 + 5 * (j + 1) = 470 + 5 * j + 5 by omega, show 12 + (j + 1) * 5 = 12 + j * 5 + 1 + 4 by omega, show 531 + (j + 1) * 70 = 531 + j * 70 + 2 + 68 by omega] at go
    exact go
theorem pl_init (s0 : ST E D 457) : AT g M_Pl_init 72 1371 [vR 457] E D (fun r E' D' => r = none ∧ E' = eB E 457 73 ∧ DL 470 530 (oneD D 468) D') := by
  have hE := s0.2.1
  have hz := s0.2.2.2
  refine at_intro (L0 := [vR 457, vU]) mc_Pl_init (Nat.le_of_ble_eq_true rfl) rfl (q_eC s0 ?_)
  refine q_aload_n d_Pl_init_0 rfl ?_
  refine q_objI l_Pl_3 zx_oi_linki zx_oi_linkc d_Pl_init_1 (by decide) ?_
  refine q_aload_n d_Pl_init_4 rfl ?_
  refine q_bipush d_Pl_init_5 (by decide) ?_
  refine q_fldI (k := 1) (ci := 7) (off := 1) (N0 := 458) (n := 12) (x0 := 0) (by decide +kernel) (by decide) d_Pl_init_7 (fun i j h => hz i j (by omega)) (by decide) zc_Pl l_Pl_9 (by decide +kernel) rfl rfl (by decide +kernel) d_Pl_init_9 (by decide +kernel) hE (by decide) rfl ?_
  refine q_aload_n d_Pl_init_12 rfl ?_
  refine q_bipush d_Pl_init_13 (by decide) ?_
  refine q_fldI (k := 2) (ci := 7) (off := 2) (N0 := 459) (n := 12) (x0 := 0) (by decide +kernel) (by decide) d_Pl_init_15 (fun i j h => hz i j (by omega)) (by decide) zc_Pl l_Pl_15 (by decide +kernel) rfl rfl (by decide +kernel) d_Pl_init_17 (by decide +kernel) hE (by decide) rfl ?_
  refine q_aload_n d_Pl_init_20 rfl ?_
  refine q_bipush d_Pl_init_21 (by decide) ?_
  refine q_fldR (k := 3) (ci := 7) (off := 3) (N0 := 460) (n := 12) (t := 3) (k0 := 5) (Or.inr rfl) l_Pl_18 rfl (by decide +kernel) (by decide) d_Pl_init_23 (fun i j h => hz i j (by omega)) (by decide) zc_Pl l_Pl_20 (by decide +kernel) rfl rfl (by decide +kernel) d_Pl_init_26 (by decide +kernel) hE (by decide) rfl ?_
  refine q_aload_n d_Pl_init_29 rfl ?_
  refine q_bipush d_Pl_init_30 (by decide) ?_
  refine q_fldI (k := 4) (ci := 7) (off := 4) (N0 := 461) (n := 12) (x0 := 0) (by decide +kernel) (by decide) d_Pl_init_32 (fun i j h => hz i j (by omega)) (by decide) zc_Pl l_Pl_24 (by decide +kernel) rfl rfl (by decide +kernel) d_Pl_init_34 (by decide +kernel) hE (by decide) rfl ?_
  refine q_aload_n d_Pl_init_37 rfl ?_
  refine q_sipush d_Pl_init_38 (by decide) ?_
  refine q_fldI (k := 5) (ci := 7) (off := 5) (N0 := 462) (n := 200) (x0 := 0) (by decide +kernel) (by decide) d_Pl_init_41 (fun i j h => hz i j (by omega)) (by decide) zc_Pl l_Pl_27 (by decide +kernel) rfl rfl (by decide +kernel) d_Pl_init_43 (by decide +kernel) hE (by decide) rfl ?_
  refine q_aload_n d_Pl_init_46 rfl ?_
  refine q_sipush d_Pl_init_47 (by decide) ?_
  refine q_fldI (k := 6) (ci := 7) (off := 6) (N0 := 463) (n := 201) (x0 := 0) (by decide +kernel) (by decide) d_Pl_init_50 (fun i j h => hz i j (by omega)) (by decide) zc_Pl l_Pl_30 (by decide +kernel) rfl rfl (by decide +kernel) d_Pl_init_52 (by decide +kernel) hE (by decide) rfl ?_
  refine q_aload_n d_Pl_init_55 rfl ?_
  refine q_bipush d_Pl_init_56 (by decide) ?_
  refine q_fldI (k := 7) (ci := 7) (off := 7) (N0 := 464) (n := 12) (x0 := 0) (by decide +kernel) (by decide) d_Pl_init_58 (fun i j h => hz i j (by omega)) (by decide) zc_Pl l_Pl_33 (by decide +kernel) rfl rfl (by decide +kernel) d_Pl_init_60 (by decide +kernel) hE (by decide) rfl ?_
  refine q_aload_n d_Pl_init_63 rfl ?_
  refine q_sub (b := 465) (t := 0) (s := 5) (P := fun D D' => D' = oneD D (465 + 3)) zc_Fr zdv_Fr zi_Fr l_Pl_18 d_Pl_init_64 d_Pl_init_67 d_Pl_init_68 mc_Fr_init mi_Fr_init rfl l_Pl_36 rfl (by decide +kernel) rfl hE (fun i k h => eC_out ⟨by decide, h⟩) (fun i j h => hz i j (by omega)) (by decide) (fr_init (by decide +kernel)) ?_
  intro F1 e1
  refine q_fldO (k := 8) (ci := 7) (off := 8) (N0 := 465) (s := 5) zc_Pl l_Pl_37 (by decide +kernel) rfl rfl (ty := .object "SpeedKernel$Fraction") (by decide +kernel) (fun _ => rfl) (fun _ => rfl) d_Pl_init_71 (by decide +kernel) hE (by decide) rfl (fun i k h1 h2 _ => by rw [updX_o (by omega)]) ?_
  refine q_iconst d_Pl_init_74 (by decide) ?_
  refine q_istore_n d_Pl_init_75 (by decide) (L' := [vR 457, vI 0]) rfl ?_
  refine pl_iloop (D0 := F1) hE rfl (fun i j h => by rw [e1, oneD_off (by omega)]; exact hz i j (by omega)) (fun D2 d2 => ?_) 12 0 F1 (by omega) (fun c hc => rfl)
  refine q_eCB (a := 457) (s := 73) (ci := 7) (x := 0) (by decide) (by decide +kernel) hE (by decide +kernel) (fun i k _ _ hr => updX_all (t := 3) (by decide +kernel) i k hr) ?_
  exact q_vret d_Pl_init_101 rfl (by decide) ⟨rfl, rfl, e1 ▸ d2⟩
theorem fo_iloop (hE : E0.2.2) (hF : F 0 = true) (hz : ∀ i j, 549 ≤ i → D i j = 0)
    (hk : Zg g M_Fo_init 42 694 Q 117 [vR 530, vI 12] [] (eC E0 530 (573) F (updX (fun _ _ => true) 531 12)) D (18 + 12 * 2) (286 + 12 * 34)) :
    ∀ (m j : Nat), j + m = 12 → Zg g M_Fo_init 42 694 Q 92 [vR 530, vI j] [] (eC E0 530 (549 + 2 * j) F (updX (fun _ _ => true) 531 j)) D (18 + j * 2) (286 + j * 34) := by
  intro m
  induction m with
  | zero =>
    intro j hm
    obtain rfl : j = 12 := by omega
    refine q_iload_n d_Fo_init_92 rfl ?_
    refine q_bipush d_Fo_init_93 (by decide) ?_
    exact q_icmp_ge (tgt := 117) d_Fo_init_95 (by decide) (fun _ => hk) (fun q => by omega)
  | succ m ih =>
    intro j hm
    refine q_iload_n d_Fo_init_92 rfl ?_
    refine q_bipush d_Fo_init_93 (by decide) ?_
    refine q_icmp_ge (tgt := 117) d_Fo_init_95 (by decide) (fun q => by omega) (fun _ => ?_)
    refine q_aload_n d_Fo_init_98 rfl ?_
    refine q_getR (k := 0) (off := 1) zc_Fo l_Fo_11 (by decide +kernel) d_Fo_init_99 (by decide +kernel) (by show 530 < 549 + 2 * j; omega) (by rw [eC_at]; exact hF) ?_
    refine q_iload_n d_Fo_init_102 rfl ?_
    have zr : zk (549 + 2 * j) = (0, 3, 0) := by
      have : ∀ j : Fin 12, zk (549 + 2 * j.val) = (0, 3, 0) := by decide +kernel
      exact this ⟨j, by omega⟩
    refine q_eltN (N := 549 + 2 * j) (k0 := 4) (t := 4) (n := 12) l_Fo_9 l_Fo_17 rfl d_Fo_init_103 d_Fo_init_106 d_Fo_init_107 d_Fo_init_110 rfl (show zk 531 = (5, 12, 4) by decide +kernel) (by omega) zr (by show 549 + 2 * j = 531 + 18 + 2 * j; omega) (by omega) hE (fun i k h => hz i k (by omega)) (by omega) (fun i k h1 h2 _ => rfl) ?_
    refine q_iinc (x := j) (n := 1) d_Fo_init_111 rfl (by decide) (by unfold R32; omega) (L' := [vR 530, vI ((j + 1 : Nat) : Int)]) rfl ?_
    refine q_goto (tgt := 92) d_Fo_init_114 (by decide) ?_
    have go := ih (j + 1) (by omega)
    rw [show 549 + 2 * (j + 1) = 549 + 2 * j + 2 by omega, show 18 + (j + 1) * 2 = 18 + j * 2 + 1 + 1 by omega, show 286 + (j + 1) * 34 = 286 + j * 34 + 2 + 32 by omega] at go
    exact go
theorem fo_init (s0 : ST E D 530) : AT g M_Fo_init 42 694 [vR 530] E D (fun r E' D' => r = none ∧ E' = eB E 530 43 ∧ D' = oneD D 547) := by
  have hE := s0.2.1
  have hz := s0.2.2.2
  refine at_intro (L0 := [vR 530, vU]) mc_Fo_init (Nat.le_of_ble_eq_true rfl) rfl (q_eC s0 ?_)
  refine q_aload_n d_Fo_init_0 rfl ?_
  refine q_objI l_Fo_3 zx_oi_linki zx_oi_linkc d_Fo_init_1 (by decide) ?_
  refine q_aload_n d_Fo_init_4 rfl ?_
  refine q_bipush d_Fo_init_5 (by decide) ?_
  refine q_fldR (k := 0) (ci := 8) (off := 1) (N0 := 531) (n := 12) (t := 4) (k0 := 4) (Or.inl rfl) l_Fo_9 rfl (by decide +kernel) (by decide) d_Fo_init_7 (fun i j h => hz i j (by omega)) (by decide) zc_Fo l_Fo_11 (by decide +kernel) rfl rfl (by decide +kernel) d_Fo_init_10 (by decide +kernel) hE (by decide) rfl ?_
  refine q_aload_n d_Fo_init_13 rfl ?_
  refine q_subN (b := 532) (t := 0) (s := 2) (P := fun D D' => D' = D) zc_Na zdv_Na zi_Na l_Fo_9 d_Fo_init_14 d_Fo_init_17 d_Fo_init_18 mc_Na_init mi_Na_init rfl l_Fo_17 rfl (by decide +kernel) rfl hE (fun i k h => eC_out ⟨by decide, h⟩) (fun i j h => hz i j (by omega)) (by decide) (na_init (by decide +kernel)) ?_
  rintro _ rfl
  refine q_fldO (k := 1) (ci := 8) (off := 2) (N0 := 532) (s := 2) zc_Fo l_Fo_18 (by decide +kernel) rfl rfl (ty := .object "SpeedKernel$Natural") (by decide +kernel) (fun _ => rfl) (fun _ => rfl) d_Fo_init_21 (by decide +kernel) hE (by decide) rfl (fun i k h1 h2 _ => by rw [updX_o (by omega)]) ?_
  refine q_aload_n d_Fo_init_24 rfl ?_
  refine q_subN (b := 534) (t := 0) (s := 2) (P := fun D D' => D' = D) zc_Na zdv_Na zi_Na l_Fo_9 d_Fo_init_25 d_Fo_init_28 d_Fo_init_29 mc_Na_init mi_Na_init rfl l_Fo_17 rfl (by decide +kernel) rfl hE (fun i k h => eC_out ⟨by decide, h⟩) (fun i j h => hz i j (by omega)) (by decide) (na_init (by decide +kernel)) ?_
  rintro _ rfl
  refine q_fldO (k := 2) (ci := 8) (off := 4) (N0 := 534) (s := 2) zc_Fo l_Fo_22 (by decide +kernel) rfl rfl (ty := .object "SpeedKernel$Natural") (by decide +kernel) (fun _ => rfl) (fun _ => rfl) d_Fo_init_32 (by decide +kernel) hE (by decide) rfl (fun i k h1 h2 _ => by rw [updX_o (by omega)]) ?_
  refine q_aload_n d_Fo_init_35 rfl ?_
  refine q_subN (b := 536) (t := 0) (s := 2) (P := fun D D' => D' = D) zc_Na zdv_Na zi_Na l_Fo_9 d_Fo_init_36 d_Fo_init_39 d_Fo_init_40 mc_Na_init mi_Na_init rfl l_Fo_17 rfl (by decide +kernel) rfl hE (fun i k h => eC_out ⟨by decide, h⟩) (fun i j h => hz i j (by omega)) (by decide) (na_init (by decide +kernel)) ?_
  rintro _ rfl
  refine q_fldO (k := 4) (ci := 8) (off := 6) (N0 := 536) (s := 2) zc_Fo l_Fo_25 (by decide +kernel) rfl rfl (ty := .object "SpeedKernel$Natural") (by decide +kernel) (fun _ => rfl) (fun _ => rfl) d_Fo_init_43 (by decide +kernel) hE (by decide) rfl (fun i k h1 h2 _ => by rw [updX_o (by omega)]) ?_
  refine q_aload_n d_Fo_init_46 rfl ?_
  refine q_subN (b := 538) (t := 0) (s := 2) (P := fun D D' => D' = D) zc_Na zdv_Na zi_Na l_Fo_9 d_Fo_init_47 d_Fo_init_50 d_Fo_init_51 mc_Na_init mi_Na_init rfl l_Fo_17 rfl (by decide +kernel) rfl hE (fun i k h => eC_out ⟨by decide, h⟩) (fun i j h => hz i j (by omega)) (by decide) (na_init (by decide +kernel)) ?_
  rintro _ rfl
  refine q_fldO (k := 5) (ci := 8) (off := 8) (N0 := 538) (s := 2) zc_Fo l_Fo_28 (by decide +kernel) rfl rfl (ty := .object "SpeedKernel$Natural") (by decide +kernel) (fun _ => rfl) (fun _ => rfl) d_Fo_init_54 (by decide +kernel) hE (by decide) rfl (fun i k h1 h2 _ => by rw [updX_o (by omega)]) ?_
  refine q_aload_n d_Fo_init_57 rfl ?_
  refine q_subN (b := 540) (t := 0) (s := 2) (P := fun D D' => D' = D) zc_Na zdv_Na zi_Na l_Fo_9 d_Fo_init_58 d_Fo_init_61 d_Fo_init_62 mc_Na_init mi_Na_init rfl l_Fo_17 rfl (by decide +kernel) rfl hE (fun i k h => eC_out ⟨by decide, h⟩) (fun i j h => hz i j (by omega)) (by decide) (na_init (by decide +kernel)) ?_
  rintro _ rfl
  refine q_fldO (k := 6) (ci := 8) (off := 10) (N0 := 540) (s := 2) zc_Fo l_Fo_31 (by decide +kernel) rfl rfl (ty := .object "SpeedKernel$Natural") (by decide +kernel) (fun _ => rfl) (fun _ => rfl) d_Fo_init_65 (by decide +kernel) hE (by decide) rfl (fun i k h1 h2 _ => by rw [updX_o (by omega)]) ?_
  refine q_aload_n d_Fo_init_68 rfl ?_
  refine q_subN (b := 542) (t := 0) (s := 2) (P := fun D D' => D' = D) zc_Na zdv_Na zi_Na l_Fo_9 d_Fo_init_69 d_Fo_init_72 d_Fo_init_73 mc_Na_init mi_Na_init rfl l_Fo_17 rfl (by decide +kernel) rfl hE (fun i k h => eC_out ⟨by decide, h⟩) (fun i j h => hz i j (by omega)) (by decide) (na_init (by decide +kernel)) ?_
  rintro _ rfl
  refine q_fldO (k := 7) (ci := 8) (off := 12) (N0 := 542) (s := 2) zc_Fo l_Fo_34 (by decide +kernel) rfl rfl (ty := .object "SpeedKernel$Natural") (by decide +kernel) (fun _ => rfl) (fun _ => rfl) d_Fo_init_76 (by decide +kernel) hE (by decide) rfl (fun i k h1 h2 _ => by rw [updX_o (by omega)]) ?_
  refine q_aload_n d_Fo_init_79 rfl ?_
  refine q_sub (b := 544) (t := 0) (s := 5) (P := fun D D' => D' = oneD D (544 + 3)) zc_Fr zdv_Fr zi_Fr l_Fo_37 d_Fo_init_80 d_Fo_init_83 d_Fo_init_84 mc_Fr_init mi_Fr_init rfl l_Fo_39 rfl (by decide +kernel) rfl hE (fun i k h => eC_out ⟨by decide, h⟩) (fun i j h => hz i j (by omega)) (by decide) (fr_init (by decide +kernel)) ?_
  intro F1 e1
  refine q_fldO (k := 8) (ci := 8) (off := 14) (N0 := 544) (s := 5) zc_Fo l_Fo_40 (by decide +kernel) rfl rfl (ty := .object "SpeedKernel$Fraction") (by decide +kernel) (fun _ => rfl) (fun _ => rfl) d_Fo_init_87 (by decide +kernel) hE (by decide) rfl (fun i k h1 h2 _ => by rw [updX_o (by omega)]) ?_
  refine q_iconst d_Fo_init_90 (by decide) ?_
  refine q_istore_n d_Fo_init_91 (by decide) (L' := [vR 530, vI 0]) rfl ?_
  refine fo_iloop hE rfl (fun i j h => by rw [e1, oneD_off (by omega)]; exact hz i j (by omega)) ?_ 12 0 (by omega)
  refine q_eCB (a := 530) (s := 43) (ci := 8) (x := 0) (by decide) (by decide +kernel) hE (by decide +kernel) (fun i k _ _ hr => updX_all (t := 4) (by decide +kernel) i k hr) ?_
  exact q_vret d_Fo_init_117 rfl (by decide) ⟨rfl, rfl, e1⟩
end PLI
