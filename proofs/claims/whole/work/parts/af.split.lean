/-! Splitter made -/
section SPI
variable {g : GG} {M M' : MI} {mc ms mc' ms' : Nat} {pc : Nat} {L st : List VV} {E E0 : EE} {D D0 : DD} {ca sa : Nat} {F : Nat → Bool} {X : Nat → Nat → Bool} {Q : Option VV → EE → DD → Prop} {a : Nat}
theorem sp_iloop (hE : E0.2.2) (hF : F 3 = true ∧ F 4 = true) (hz : ∀ i j, 583 ≤ i → D0 i j = 0)
    (hk : ∀ D, DL 583 703 D0 D → Zg g M_Sp_init 129 1798 Q 89 [vR 573, vI 12] [] (eC E0 573 (703) F (updX (updX (fun _ _ => true) 577 12) 576 12)) D (9 + 12 * 10) (118 + 12 * 140)) :
    ∀ (m j : Nat) (D : DD), j + m = 12 → DL 583 (583 + 10 * j) D0 D → Zg g M_Sp_init 129 1798 Q 51 [vR 573, vI j] [] (eC E0 573 (583 + 10 * j) F (updX (updX (fun _ _ => true) 577 j) 576 j)) D (9 + j * 10) (118 + j * 140) := by
  intro m
  induction m with
  | zero =>
    intro j D hm hD
    obtain rfl : j = 12 := by omega
    refine q_iload_n d_Sp_init_51 rfl ?_
    refine q_bipush d_Sp_init_52 (by decide) ?_
    exact q_icmp_ge (tgt := 89) d_Sp_init_54 (by decide) (fun _ => hk D hD) (fun q => by omega)
  | succ m ih =>
    intro j D hm hD
    refine q_iload_n d_Sp_init_51 rfl ?_
    refine q_bipush d_Sp_init_52 (by decide) ?_
    refine q_icmp_ge (tgt := 89) d_Sp_init_54 (by decide) (fun q => by omega) (fun _ => ?_)
    have zr : zk (583 + 10 * j) = (0, 4, 0) ∧ zk (583 + 10 * j + 5) = (0, 4, 0) := by
      have : ∀ j : Fin 12, zk (583 + 10 * j.val) = (0, 4, 0) ∧ zk (583 + 10 * j.val + 5) = (0, 4, 0) := by decide +kernel
      exact this ⟨j, by omega⟩
    refine q_aload_n d_Sp_init_57 rfl ?_
    refine q_getR (k := 3) (off := 3) zc_Sp l_Sp_20 (by decide +kernel) d_Sp_init_58 (by decide +kernel) (by show 573 < 583 + 10 * j; omega) (by rw [eC_at]; exact hF.1) ?_
    refine q_iload_n d_Sp_init_61 rfl ?_
    refine q_eltF (N := 583 + 10 * j) (k0 := 5) (t := 5) (n := 12) l_Sp_18 l_Sp_27 rfl d_Sp_init_62 d_Sp_init_65 d_Sp_init_66 d_Sp_init_69 rfl (show zk 576 = (5, 12, 5) by decide +kernel) (by omega) zr.1 (by show 583 + 10 * j = 576 + 7 + 10 * j; omega) (by omega) hE (fun i k h => by rw [hD i (by omega)]; exact hz i k (by omega)) (by omega) (fun i k h1 h2 _ => updX_o (by omega)) ?_
    intro D1 e1
    rw [show updX (updX (fun _ _ => true) 577 j) 576 (j + 1) = updX (updX (fun _ _ => true) 576 (j + 1)) 577 j from updX_comm (by decide)]
    refine q_aload_n d_Sp_init_70 rfl ?_
    refine q_getR (k := 4) (off := 4) zc_Sp l_Sp_24 (by decide +kernel) d_Sp_init_71 (by decide +kernel) (by show 573 < 583 + 10 * j + 5; omega) (by rw [eC_at]; exact hF.2) ?_
    refine q_iload_n d_Sp_init_74 rfl ?_
    refine q_eltF (N := 583 + 10 * j + 5) (k0 := 5) (t := 6) (n := 12) l_Sp_18 l_Sp_27 rfl d_Sp_init_75 d_Sp_init_78 d_Sp_init_79 d_Sp_init_82 rfl (show zk 577 = (5, 12, 6) by decide +kernel) (by omega) zr.2 (by show 583 + 10 * j + 5 = 577 + 11 + 10 * j; omega) (by omega) hE (fun i k h => by rw [e1, oneD_off (by omega), hD i (by omega)]; exact hz i k (by omega)) (by omega) (fun i k h1 h2 _ => updX_o (by omega)) ?_
    intro D2 e2
    rw [show updX (updX (fun _ _ => true) 576 (j + 1)) 577 (j + 1) = updX (updX (fun _ _ => true) 577 (j + 1)) 576 (j + 1) from updX_comm (by decide)]
    refine q_iinc (x := j) (n := 1) d_Sp_init_83 rfl (by decide) (by unfold R32; omega) (L' := [vR 573, vI ((j + 1 : Nat) : Int)]) rfl ?_
    refine q_goto (tgt := 51) d_Sp_init_86 (by decide) ?_
    have go := ih (j + 1) D2 (by omega) fun c hc => by rw [e2, oneD_off (by omega), e1, oneD_off (by omega)]; exact hD c (by omega)
    rw [show 583 + 10 * (j + 1) = 583 + 10 * j + 5 + 5 by omega, show 9 + (j + 1) * 10 = 9 + j * 10 + 1 + 4 + 1 + 4 by omega, show 118 + (j + 1) * 140 = 118 + j * 140 + 2 + 68 + 2 + 68 by omega] at go
    exact go
theorem sp_init (s0 : ST E D 573) : AT g M_Sp_init 129 1798 [vR 573] E D (fun r E' D' => r = none ∧ E' = eB E 573 130 ∧ DL 583 703 (oneD D 581) D') := by
  have hE := s0.2.1
  have hz := s0.2.2.2
  refine at_intro (L0 := [vR 573, vU]) mc_Sp_init (Nat.le_of_ble_eq_true rfl) rfl (q_eC s0 ?_)
  refine q_aload_n d_Sp_init_0 rfl ?_
  refine q_objI l_Sp_3 zx_oi_linki zx_oi_linkc d_Sp_init_1 (by decide) ?_
  refine q_aload_n d_Sp_init_4 rfl ?_
  refine q_bipush d_Sp_init_5 (by decide) ?_
  refine q_fldI (k := 1) (ci := 9) (off := 1) (N0 := 574) (n := 12) (x0 := 0) (by decide +kernel) (by decide) d_Sp_init_7 (fun i j h => hz i j (by omega)) (by decide) zc_Sp l_Sp_9 (by decide +kernel) rfl rfl (by decide +kernel) d_Sp_init_9 (by decide +kernel) hE (by decide) rfl ?_
  refine q_aload_n d_Sp_init_12 rfl ?_
  refine q_bipush d_Sp_init_13 (by decide) ?_
  refine q_fldI (k := 2) (ci := 9) (off := 2) (N0 := 575) (n := 12) (x0 := 0) (by decide +kernel) (by decide) d_Sp_init_15 (fun i j h => hz i j (by omega)) (by decide) zc_Sp l_Sp_15 (by decide +kernel) rfl rfl (by decide +kernel) d_Sp_init_17 (by decide +kernel) hE (by decide) rfl ?_
  refine q_aload_n d_Sp_init_20 rfl ?_
  refine q_bipush d_Sp_init_21 (by decide) ?_
  refine q_fldR (k := 3) (ci := 9) (off := 3) (N0 := 576) (n := 12) (t := 5) (k0 := 5) (Or.inr rfl) l_Sp_18 rfl (by decide +kernel) (by decide) d_Sp_init_23 (fun i j h => hz i j (by omega)) (by decide) zc_Sp l_Sp_20 (by decide +kernel) rfl rfl (by decide +kernel) d_Sp_init_26 (by decide +kernel) hE (by decide) rfl ?_
  refine q_aload_n d_Sp_init_29 rfl ?_
  refine q_bipush d_Sp_init_30 (by decide) ?_
  refine q_fldR (k := 4) (ci := 9) (off := 4) (N0 := 577) (n := 12) (t := 6) (k0 := 5) (Or.inr rfl) l_Sp_18 rfl (by decide +kernel) (by decide) d_Sp_init_32 (fun i j h => hz i j (by omega)) (by decide) zc_Sp l_Sp_24 (by decide +kernel) rfl rfl (by decide +kernel) d_Sp_init_35 (by decide +kernel) hE (by decide) rfl ?_
  refine q_aload_n d_Sp_init_38 rfl ?_
  refine q_sub (b := 578) (t := 0) (s := 5) (P := fun D D' => D' = oneD D (578 + 3)) zc_Fr zdv_Fr zi_Fr l_Sp_18 d_Sp_init_39 d_Sp_init_42 d_Sp_init_43 mc_Fr_init mi_Fr_init rfl l_Sp_27 rfl (by decide +kernel) rfl hE (fun i k h => eC_out ⟨by decide, h⟩) (fun i j h => hz i j (by omega)) (by decide) (fr_init (by decide +kernel)) ?_
  intro F1 e1
  refine q_fldO (k := 5) (ci := 9) (off := 5) (N0 := 578) (s := 5) zc_Sp l_Sp_28 (by decide +kernel) rfl rfl (ty := .object "SpeedKernel$Fraction") (by decide +kernel) (fun _ => rfl) (fun _ => rfl) d_Sp_init_46 (by decide +kernel) hE (by decide) rfl (fun i k h1 h2 _ => by rw [updX_o (by omega)]; rw [updX_o (by omega)]) ?_
  refine q_iconst d_Sp_init_49 (by decide) ?_
  refine q_istore_n d_Sp_init_50 (by decide) (L' := [vR 573, vI 0]) rfl ?_
  rw [show updX (updX (fun _ _ => true) 576 0) 577 0 = updX (updX (fun _ _ => true) 577 0) 576 0 from updX_comm (by decide)]
  refine sp_iloop (D0 := F1) hE ⟨rfl, rfl⟩ (fun i j h => by rw [e1, oneD_off (by omega)]; exact hz i j (by omega)) (fun D2 d2 => ?_) 12 0 F1 (by omega) (fun c hc => rfl)
  refine q_eCB (a := 573) (s := 130) (ci := 9) (x := 0) (by decide) (by decide +kernel) hE (by decide +kernel) (fun i k _ _ hr => ?_) ?_
  · by_cases z : i = 576
    · subst z
      rw [updX_i]
      unfold rp at hr
      rw [show zk 576 = (5, 12, 5) by decide +kernel] at hr
      rcases hr with hr | hr
      · exact absurd hr.1 (by show ¬ (5 : Nat) = 0; decide)
      · exact decide_eq_true hr.2
    · rw [updX_o z]
      exact updX_all (t := 6) (by decide +kernel) i k hr
  · exact q_vret d_Sp_init_89 rfl (by decide) ⟨rfl, rfl, e1 ▸ d2⟩
end SPI
