/-! SpeedKernel made -/
section KEI
variable {g : GG} {M M' : MI} {mc ms mc' ms' : Nat} {pc : Nat} {L st : List VV} {E E0 : EE} {D D0 : DD} {ca sa : Nat} {F : Nat → Bool} {X : Nat → Nat → Bool} {Q : Option VV → EE → DD → Prop} {a : Nat}
theorem zdv_Jo : zdv 1 F_Jo 5 := zdv_of t_Jo_ok (by decide +kernel)
theorem zdv_Le : zdv 2 F_Le 3 := zdv_of t_Le_ok (by decide +kernel)
theorem zdv_Re : zdv 6 F_Re 9 := zdv_of t_Re_ok (by decide +kernel)
theorem zdv_Pl : zdv 7 F_Pl 13 := zdv_of t_Pl_ok (by decide +kernel)
theorem zdv_Fo : zdv 8 F_Fo 9 := zdv_of t_Fo_ok (by decide +kernel)
theorem zdv_Sp : zdv 9 F_Sp 6 := zdv_of t_Sp_ok (by decide +kernel)
theorem zdv_Te : zdv 10 F_Te 4 := zdv_of t_Te_ok (by decide +kernel)
theorem zdv_Mo : zdv 11 F_Mo 34 := zdv_of t_Mo_ok (by decide +kernel)
theorem zdv_Ke : zdv 0 F_Ke 9 := zdv_of t_Ke_ok (by decide +kernel)
theorem na_0 (h : D a 1 = 0) : Na D a 0 := by
  refine ⟨by omega, fun i h1 h2 => by omega, Or.inl h, ?_⟩
  rw [h]; rfl
theorem na_1 (h : D a 1 = 1) (h0 : D (a + 1) 0 = 1) : Na D a 1 := by
  have b := BB_pos
  refine ⟨by omega, fun i h1 h2 => ?_, Or.inr (by rw [h]; decide), ?_⟩
  · obtain rfl : i = 0 := by omega
    rw [h0]
    exact ⟨by omega, by decide⟩
  · rw [h, show (1 : Int) = 0 + 1 by rfl, Ds_s (Int.le_refl 0), Ds_0, h0]; rfl
/-- the world of a new object -/
def IK (D : DD) : Prop := (∀ c j, c < 15 → D c j = 0) ∧ (∀ j, D 200 j = 0) ∧ (∀ j, D 463 j = 0) ∧ Fq D 465 0 ∧ (∀ j, D 573 j = 0) ∧ ∀ c j, 703 ≤ c → D c j = 0
theorem ke_init (s0 : ST E D 0) : AT g M_Ke_init 707 11647 [vR 0] E D (fun r E' D' => r = none ∧ E' = eB E 0 708 ∧ IK D') := by
  have hE := s0.2.1
  have hz := s0.2.2.2
  refine at_intro (L0 := [vR 0]) mc_Ke_init (Nat.le_of_ble_eq_true rfl) rfl (q_eC s0 ?_)
  refine q_aload_n d_Ke_init_0 rfl ?_
  refine q_objI l_Ke_3 zx_oi_linki zx_oi_linkc d_Ke_init_1 (by decide) ?_
  refine q_aload_n d_Ke_init_4 rfl ?_
  refine q_subN (b := 1) (t := 0) (s := 5) (P := fun D D' => D' = D) zc_Jo zdv_Jo zi_Jo l_Ke_9 d_Ke_init_5 d_Ke_init_8 d_Ke_init_9 mc_Jo_init mi_Jo_init rfl l_Ke_11 rfl (by decide +kernel) rfl hE (fun i k h => eC_out ⟨by decide, h⟩) (fun i j h => hz i j (by omega)) (by decide) (jo_init) ?_
  intro Da ea
  rw [ea]
  clear ea Da
  refine q_fldO (k := 0) (ci := 0) (off := 1) (N0 := 1) (s := 5) zc_Ke l_Ke_12 (by decide +kernel) rfl rfl (ty := .object "SpeedKernel$Jobs") (by decide +kernel) (fun _ => rfl) (fun _ => rfl) d_Ke_init_12 (by decide +kernel) hE (by decide) rfl (fun i k h1 h2 _ => rfl) ?_
  refine q_aload_n d_Ke_init_15 rfl ?_
  refine q_subN (b := 6) (t := 0) (s := 3) (P := fun D D' => D' = D) zc_Le zdv_Le zi_Le l_Ke_16 d_Ke_init_16 d_Ke_init_19 d_Ke_init_20 mc_Le_init mi_Le_init rfl l_Ke_18 rfl (by decide +kernel) rfl hE (fun i k h => eC_out ⟨by decide, h⟩) (fun i j h => hz i j (by omega)) (by decide) (le_init) ?_
  intro Da ea
  rw [ea]
  clear ea Da
  refine q_fldO (k := 1) (ci := 0) (off := 6) (N0 := 6) (s := 3) zc_Ke l_Ke_19 (by decide +kernel) rfl rfl (ty := .object "SpeedKernel$Levels") (by decide +kernel) (fun _ => rfl) (fun _ => rfl) d_Ke_init_23 (by decide +kernel) hE (by decide) rfl (fun i k h1 h2 _ => rfl) ?_
  refine q_aload_n d_Ke_init_26 rfl ?_
  refine q_sub (b := 9) (t := 0) (s := 191) (P := fun D D' => DL 15 200 D D') zc_Pr zdv_Pr zi_Pr l_Ke_23 d_Ke_init_27 d_Ke_init_30 d_Ke_init_31 mc_Pr_init mi_Pr_init rfl l_Ke_25 rfl (by decide +kernel) rfl hE (fun i k h => eC_out ⟨by decide, h⟩) (fun i j h => hz i j (by omega)) (by decide) (pr_init (by decide +kernel)) ?_
  intro D1 e1
  have z1 : ∀ i, 200 ≤ i → D1 i = D i := fun i h => by rw [e1 i (by omega)]
  refine q_fldO (k := 2) (ci := 0) (off := 9) (N0 := 9) (s := 191) zc_Ke l_Ke_26 (by decide +kernel) rfl rfl (ty := .object "SpeedKernel$Profile") (by decide +kernel) (fun _ => rfl) (fun _ => rfl) d_Ke_init_34 (by decide +kernel) hE (by decide) rfl (fun i k h1 h2 _ => rfl) ?_
  refine q_aload_n d_Ke_init_37 rfl ?_
  refine q_sub (b := 200) (t := 0) (s := 191) (P := fun D D' => DL 206 391 D D') zc_Pr zdv_Pr zi_Pr l_Ke_23 d_Ke_init_38 d_Ke_init_41 d_Ke_init_42 mc_Pr_init mi_Pr_init rfl l_Ke_25 rfl (by decide +kernel) rfl hE (fun i k h => eC_out ⟨by decide, h⟩) (fun i j h => by rw [z1 i (by omega)]; exact hz i j (by omega)) (by decide) (pr_init (by decide +kernel)) ?_
  intro D2 e2
  have z2 : ∀ i, 391 ≤ i → D2 i = D i := fun i h => by rw [e2 i (by omega), z1 i (by omega)]
  refine q_fldO (k := 3) (ci := 0) (off := 200) (N0 := 200) (s := 191) zc_Ke l_Ke_30 (by decide +kernel) rfl rfl (ty := .object "SpeedKernel$Profile") (by decide +kernel) (fun _ => rfl) (fun _ => rfl) d_Ke_init_45 (by decide +kernel) hE (by decide) rfl (fun i k h1 h2 _ => rfl) ?_
  refine q_aload_n d_Ke_init_48 rfl ?_
  refine q_sub (b := 391) (t := 0) (s := 66) (P := fun D D' => D' = D) zc_Re zdv_Re zi_Re l_Ke_33 d_Ke_init_49 d_Ke_init_52 d_Ke_init_53 mc_Re_init mi_Re_init rfl l_Ke_35 rfl (by decide +kernel) rfl hE (fun i k h => eC_out ⟨by decide, h⟩) (fun i j h => by rw [z2 i (by omega)]; exact hz i j (by omega)) (by decide) (re_init) ?_
  intro Da ea
  rw [ea]
  clear ea Da
  refine q_fldO (k := 4) (ci := 0) (off := 391) (N0 := 391) (s := 66) zc_Ke l_Ke_36 (by decide +kernel) rfl rfl (ty := .object "SpeedKernel$Reckoner") (by decide +kernel) (fun _ => rfl) (fun _ => rfl) d_Ke_init_56 (by decide +kernel) hE (by decide) rfl (fun i k h1 h2 _ => rfl) ?_
  refine q_aload_n d_Ke_init_59 rfl ?_
  refine q_sub (b := 457) (t := 0) (s := 73) (P := fun D D' => DL 470 530 (oneD D 468) D') zc_Pl zdv_Pl zi_Pl l_Ke_40 d_Ke_init_60 d_Ke_init_63 d_Ke_init_64 mc_Pl_init mi_Pl_init rfl l_Ke_42 rfl (by decide +kernel) rfl hE (fun i k h => eC_out ⟨by decide, h⟩) (fun i j h => by rw [z2 i (by omega)]; exact hz i j (by omega)) (by decide) (pl_init) ?_
  intro D3 e3
  have z3 : ∀ i, 530 ≤ i → D3 i = D i := fun i h => by rw [e3 i (by omega), oneD_off (by omega), z2 i (by omega)]
  refine q_fldO (k := 5) (ci := 0) (off := 457) (N0 := 457) (s := 73) zc_Ke l_Ke_43 (by decide +kernel) rfl rfl (ty := .object "SpeedKernel$Planner") (by decide +kernel) (fun _ => rfl) (fun _ => rfl) d_Ke_init_67 (by decide +kernel) hE (by decide) rfl (fun i k h1 h2 _ => rfl) ?_
  refine q_aload_n d_Ke_init_70 rfl ?_
  refine q_sub (b := 530) (t := 0) (s := 43) (P := fun D D' => D' = oneD D 547) zc_Fo zdv_Fo zi_Fo l_Ke_47 d_Ke_init_71 d_Ke_init_74 d_Ke_init_75 mc_Fo_init mi_Fo_init rfl l_Ke_49 rfl (by decide +kernel) rfl hE (fun i k h => eC_out ⟨by decide, h⟩) (fun i j h => by rw [z3 i (by omega)]; exact hz i j (by omega)) (by decide) (fo_init) ?_
  intro D4 e4
  have z4 : ∀ i, 573 ≤ i → D4 i = D i := fun i h => by rw [e4, oneD_off (by omega), z3 i (by omega)]
  refine q_fldO (k := 6) (ci := 0) (off := 530) (N0 := 530) (s := 43) zc_Ke l_Ke_50 (by decide +kernel) rfl rfl (ty := .object "SpeedKernel$Foresight") (by decide +kernel) (fun _ => rfl) (fun _ => rfl) d_Ke_init_78 (by decide +kernel) hE (by decide) rfl (fun i k h1 h2 _ => rfl) ?_
  refine q_aload_n d_Ke_init_81 rfl ?_
  refine q_sub (b := 573) (t := 0) (s := 130) (P := fun D D' => DL 583 703 (oneD D 581) D') zc_Sp zdv_Sp zi_Sp l_Ke_54 d_Ke_init_82 d_Ke_init_85 d_Ke_init_86 mc_Sp_init mi_Sp_init rfl l_Ke_56 rfl (by decide +kernel) rfl hE (fun i k h => eC_out ⟨by decide, h⟩) (fun i j h => by rw [z4 i (by omega)]; exact hz i j (by omega)) (by decide) (sp_init) ?_
  intro D5 e5
  have z5 : ∀ i, 703 ≤ i → D5 i = D i := fun i h => by rw [e5 i (by omega), oneD_off (by omega), z4 i (by omega)]
  refine q_fldO (k := 7) (ci := 0) (off := 573) (N0 := 573) (s := 130) zc_Ke l_Ke_57 (by decide +kernel) rfl rfl (ty := .object "SpeedKernel$Splitter") (by decide +kernel) (fun _ => rfl) (fun _ => rfl) d_Ke_init_89 (by decide +kernel) hE (by decide) rfl (fun i k h1 h2 _ => rfl) ?_
  refine q_aload_n d_Ke_init_92 rfl ?_
  refine q_subN (b := 703) (t := 0) (s := 5) (P := fun D D' => D' = D) zc_Te zdv_Te zi_Te l_Ke_61 d_Ke_init_93 d_Ke_init_96 d_Ke_init_97 mc_Te_init mi_Te_init rfl l_Ke_63 rfl (by decide +kernel) rfl hE (fun i k h => eC_out ⟨by decide, h⟩) (fun i j h => by rw [z5 i (by omega)]; exact hz i j (by omega)) (by decide) (te_init) ?_
  intro Da ea
  rw [ea]
  clear ea Da
  refine q_fldO (k := 8) (ci := 0) (off := 703) (N0 := 703) (s := 5) zc_Ke l_Ke_64 (by decide +kernel) rfl rfl (ty := .object "SpeedKernel$Text") (by decide +kernel) (fun _ => rfl) (fun _ => rfl) d_Ke_init_100 (by decide +kernel) hE (by decide) rfl (fun i k h1 h2 _ => rfl) ?_
  refine q_eCB (a := 0) (s := 708) (ci := 0) (x := 0) (by decide) (by decide +kernel) hE (by decide +kernel) (fun i k _ _ _ => rfl) ?_
  refine q_vret d_Ke_init_103 rfl (by decide) ⟨rfl, rfl, ?_⟩
  have hz := fun i j => hz i j (Nat.zero_le i)
  have lo : ∀ c, c < 466 ∨ (469 < c ∧ c < 470) → (c < 15 ∨ c = 200 ∨ c = 463) → D5 c = D c := fun c h h' => by
    rw [e5 c (by omega), oneD_off (by omega), e4, oneD_off (by omega), e3 c (by omega), oneD_off (by omega), e2 c (by omega), e1 c (by omega)]
  have md : ∀ c, 465 ≤ c → c < 470 → D5 c = oneD D2 468 c := fun c h h' => by
    rw [e5 c (by omega), oneD_off (by omega), e4, oneD_off (by omega), e3 c (by omega)]
  have d2 : ∀ c, 391 ≤ c → D2 c = D c := fun c h => z2 c h
  refine ⟨fun c j h => by rw [lo c (by omega) (by omega)]; exact hz c j, fun j => by rw [lo 200 (by omega) (by omega)]; exact hz _ j, fun j => by rw [lo 463 (by omega) (by omega)]; exact hz _ j, ?_, fun j => ?_, fun c j h => by rw [z5 c h]; exact hz c j⟩
  · refine ⟨na_0 ?_, na_1 ?_ ?_⟩
    · show D5 466 1 = 0
      rw [md 466 (by omega) (by omega), oneD_off (by omega), d2 466 (by omega)]; exact hz _ _
    · show D5 468 1 = 1
      rw [md 468 (by omega) (by omega)]; unfold oneD; rw [zw_eq]
    · show D5 469 0 = 1
      rw [md 469 (by omega) (by omega)]; unfold oneD
      rw [zw_off (by decide), zw_eq]
  · rw [e5 573 (by omega), oneD_off (by omega), e4, oneD_off (by omega), e3 573 (by omega), oneD_off (by omega), d2 573 (by omega)]; exact hz _ j
/-- a new object: what holds between two calls -/
theorem IK.inv (h : IK D) : INV D := by
  obtain ⟨h0, h2, h4, h5, h6, h7⟩ := h
  refine ⟨0, fun _ => 0, fun _ => 0, fun _ => 0, fun _ => 0, 0, fun _ => 0, fun _ => 0, ⟨⟨by omega, fun j h => by omega, fun j h => by omega, fun q h => by omega, fun q q' h h' => by omega, fun j h => by omega⟩, ⟨h0 1 0 (by omega), fun j h => by omega, fun q h => by omega⟩, ⟨h7 708 3 (by omega), fun j h => by omega⟩, ⟨by omega, fun i h => by omega, fun i h => by omega⟩, ⟨h0 6 0 (by omega), fun i h => by omega⟩, ⟨h7 708 7 (by omega), fun i h => by omega⟩⟩, Or.inl ⟨h0 9 0 (by omega), h7 708 10 (by omega)⟩, Or.inl ⟨h2 0, h7 708 11 (by omega)⟩, Or.inl ⟨h6 0, h7 708 12 (by omega)⟩, ⟨0, h7 703 1 (by omega), h7 708 33 (by omega), by omega, by omega, fun i h => ?_⟩, h4 0, h5⟩
  rw [h7 704 i (by omega), h7 733 i (by omega)]
end KEI
