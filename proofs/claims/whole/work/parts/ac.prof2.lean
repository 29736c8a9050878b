/-! Profile made: the whole -/
section PRJ
variable {g : GG} {E E0 : EE} {D D0 : DD} {ca sa : Nat} {F : Nat → Bool} {X : Nat → Nat → Bool} {Q : Option VV → EE → DD → Prop} {a : Nat}
/-- only these cells are changed -/
def DL (lo hi : Nat) (D D' : DD) : Prop := ∀ c, (c < lo ∨ hi ≤ c) → D' c = D c
theorem pr_loop1 (ha : zk a = (0, 5, 0)) (hE : E0.2.2) (hF : F 4 = true) (hz0 : ∀ i j, a ≤ i → D0 i j = 0) (hX : ∀ i k, a + 11 ≤ i → X i k = true)
    (hk : ∀ D, DL (a + 6) (a + 131) D0 D → Zg g M_Pr_init 190 2874 Q 85 [vR a, vI 24] [] (eC E0 a (a + 131) F (updX X (a + 3) 24)) D (10 + 24 * 5) (354 + 24 * 70)) :
    ∀ (m j : Nat) (D : DD), j + m = 24 → DL (a + 6) (a + 11 + 5 * j) D0 D → Zg g M_Pr_init 190 2874 Q 60 [vR a, vI j] [] (eC E0 a (a + 11 + 5 * j) F (updX X (a + 3) j)) D (10 + j * 5) (354 + j * 70) := by
  intro m
  induction m with
  | zero =>
    intro j D hm hD
    obtain rfl : j = 24 := by omega
    refine q_iload_n d_Pr_init_60 rfl ?_
    refine q_bipush d_Pr_init_61 (by decide) ?_
    refine q_icmp_ge (tgt := 85) d_Pr_init_63 (by decide) (fun _ => hk D hD) (fun q => by omega)
  | succ m ih =>
    intro j D hm hD
    refine q_iload_n d_Pr_init_60 rfl ?_
    refine q_bipush d_Pr_init_61 (by decide) ?_
    refine q_icmp_ge (tgt := 85) d_Pr_init_63 (by decide) (fun q => by omega) (fun _ => ?_)
    refine q_aload_n d_Pr_init_66 rfl ?_
    refine q_getR (k := 4) (off := 3) zc_Pr l_Pr_20 (by decide +kernel) d_Pr_init_67 ha (by show a < a + 11 + 5 * j; omega) (by rw [eC_at]; exact hF) ?_
    refine q_iload_n d_Pr_init_70 rfl ?_
    have zr : zk (a + 11 + 5 * j) = (0, 4, 0) := by
      have := ze_0 (zs_Pr_rate ha) (i := j) (by omega)
      rwa [show a + 3 + 8 + 5 * j = a + 11 + 5 * j by omega] at this
    refine q_eltF (N := a + 11 + 5 * j) (k0 := 5) (t := 0) (n := 24) l_Pr_18 l_Pr_30 rfl d_Pr_init_71 d_Pr_init_74 d_Pr_init_75 d_Pr_init_78 rfl (zs_Pr_rate ha) (by omega) zr (by show a + 11 + 5 * j = a + 3 + 8 + 5 * j; omega) (by omega) hE (fun i k h => by rw [hD i (by omega)]; exact hz0 i k (by omega)) (by omega) (fun i k h1 h2 _ => hX i k (by omega)) ?_
    intro D' e
    refine q_iinc (x := j) (n := 1) d_Pr_init_79 rfl (by decide) (by unfold R32; omega) (L' := [vR a, vI ((j + 1 : Nat) : Int)]) rfl ?_
    refine q_goto (tgt := 60) d_Pr_init_82 (by decide) ?_
    have go := ih (j + 1) D' (by omega) fun c hc => by rw [e, oneD_off (by omega)]; exact hD c (by omega)
    rw [show a + 11 + 5 * (j + 1) = a + 11 + 5 * j + 5 by omega, show 10 + (j + 1) * 5 = 10 + j * 5 + 1 + 4 by omega, show 354 + (j + 1) * 70 = 354 + j * 70 + 2 + 68 by omega] at go
    exact go
theorem pr_loop2 (ha : zk a = (0, 5, 0)) (hE : E0.2.2) (hF : F 5 = true) (hz0 : ∀ i j, a ≤ i → D0 i j = 0) (hX : ∀ i k, a + 131 ≤ i → X i k = true)
    (hk : ∀ D, DL (a + 6) (a + 191) D0 D → Zg g M_Pr_init 190 2874 Q 112 [vR a, vI 12] [] (eC E0 a (a + 191) F (updX X (a + 4) 12)) D (130 + 12 * 5) (2034 + 12 * 70)) :
    ∀ (m j : Nat) (D : DD), j + m = 12 → DL (a + 6) (a + 131 + 5 * j) D0 D → Zg g M_Pr_init 190 2874 Q 87 [vR a, vI j] [] (eC E0 a (a + 131 + 5 * j) F (updX X (a + 4) j)) D (130 + j * 5) (2034 + j * 70) := by
  intro m
  induction m with
  | zero =>
    intro j D hm hD
    obtain rfl : j = 12 := by omega
    refine q_iload_n d_Pr_init_87 rfl ?_
    refine q_bipush d_Pr_init_88 (by decide) ?_
    refine q_icmp_ge (tgt := 112) d_Pr_init_90 (by decide) (fun _ => hk D hD) (fun q => by omega)
  | succ m ih =>
    intro j D hm hD
    refine q_iload_n d_Pr_init_87 rfl ?_
    refine q_bipush d_Pr_init_88 (by decide) ?_
    refine q_icmp_ge (tgt := 112) d_Pr_init_90 (by decide) (fun q => by omega) (fun _ => ?_)
    refine q_aload_n d_Pr_init_93 rfl ?_
    refine q_getR (k := 5) (off := 4) zc_Pr l_Pr_24 (by decide +kernel) d_Pr_init_94 ha (by show a < a + 131 + 5 * j; omega) (by rw [eC_at]; exact hF) ?_
    refine q_iload_n d_Pr_init_97 rfl ?_
    have zr : zk (a + 131 + 5 * j) = (0, 4, 0) := by
      have := ze_1 (zs_Pr_done ha) (i := j) (by omega)
      rwa [show a + 4 + 127 + 5 * j = a + 131 + 5 * j by omega] at this
    refine q_eltF (N := a + 131 + 5 * j) (k0 := 5) (t := 1) (n := 12) l_Pr_18 l_Pr_30 rfl d_Pr_init_98 d_Pr_init_101 d_Pr_init_102 d_Pr_init_105 rfl (zs_Pr_done ha) (by omega) zr (by show a + 131 + 5 * j = a + 4 + 127 + 5 * j; omega) (by omega) hE (fun i k h => by rw [hD i (by omega)]; exact hz0 i k (by omega)) (by omega) (fun i k h1 h2 _ => hX i k (by omega)) ?_
    intro D' e
    refine q_iinc (x := j) (n := 1) d_Pr_init_106 rfl (by decide) (by unfold R32; omega) (L' := [vR a, vI ((j + 1 : Nat) : Int)]) rfl ?_
    refine q_goto (tgt := 87) d_Pr_init_109 (by decide) ?_
    have go := ih (j + 1) D' (by omega) fun c hc => by rw [e, oneD_off (by omega)]; exact hD c (by omega)
    rw [show a + 131 + 5 * (j + 1) = a + 131 + 5 * j + 5 by omega, show 130 + (j + 1) * 5 = 130 + j * 5 + 1 + 4 by omega, show 2034 + (j + 1) * 70 = 2034 + j * 70 + 2 + 68 by omega] at go
    exact go
theorem pr_init (ha : zk a = (0, 5, 0)) (s0 : ST E D a) : AT g M_Pr_init 190 2874 [vR a] E D (fun r E' D' => r = none ∧ E' = eB E a 191 ∧ DL (a + 6) (a + 191) D D') := by
  have hE := s0.2.1
  have hz := s0.2.2.2
  refine at_intro (L0 := [vR a, vU]) mc_Pr_init (Nat.le_of_ble_eq_true rfl) rfl (q_eC s0 ?_)
  refine q_aload_n d_Pr_init_0 rfl ?_
  refine q_objI l_Pr_3 zx_oi_linki zx_oi_linkc d_Pr_init_1 (by decide) ?_
  refine q_aload_n d_Pr_init_4 rfl ?_
  refine q_bipush d_Pr_init_5 (by decide) ?_
  refine q_fldI (k := 2) (ci := 5) (off := 1) (N0 := a + 1) (n := 24) (x0 := 0) (zs_Pr_begin ha) (by decide) d_Pr_init_7 (fun i j h => hz i j (by omega)) (by decide) zc_Pr l_Pr_9 (by decide +kernel) rfl rfl (by decide +kernel) d_Pr_init_9 ha hE (by omega) rfl ?_
  refine q_aload_n d_Pr_init_12 rfl ?_
  refine q_bipush d_Pr_init_13 (by decide) ?_
  refine q_fldI (k := 3) (ci := 5) (off := 2) (N0 := a + 1 + 1) (n := 24) (x0 := 0) (zs_Pr_end ha) (by decide) d_Pr_init_15 (fun i j h => hz i j (by omega)) (by decide) zc_Pr l_Pr_15 (by decide +kernel) rfl rfl (by decide +kernel) d_Pr_init_17 ha hE (by omega) rfl ?_
  refine q_aload_n d_Pr_init_20 rfl ?_
  refine q_bipush d_Pr_init_21 (by decide) ?_
  refine q_fldR (k := 4) (ci := 5) (off := 3) (N0 := a + 1 + 1 + 1) (n := 24) (t := 0) (k0 := 5) (Or.inr rfl) l_Pr_18 rfl (zs_Pr_rate ha) (by decide) d_Pr_init_23 (fun i j h => hz i j (by omega)) (by decide) zc_Pr l_Pr_20 (by decide +kernel) rfl rfl (by decide +kernel) d_Pr_init_26 ha hE (by omega) rfl ?_
  refine q_aload_n d_Pr_init_29 rfl ?_
  refine q_bipush d_Pr_init_30 (by decide) ?_
  refine q_fldR (k := 5) (ci := 5) (off := 4) (N0 := a + 1 + 1 + 1 + 1) (n := 12) (t := 1) (k0 := 5) (Or.inr rfl) l_Pr_18 rfl (zs_Pr_done ha) (by decide) d_Pr_init_32 (fun i j h => hz i j (by omega)) (by decide) zc_Pr l_Pr_24 (by decide +kernel) rfl rfl (by decide +kernel) d_Pr_init_35 ha hE (by omega) rfl ?_
  refine q_aload_n d_Pr_init_38 rfl ?_
  refine q_sipush d_Pr_init_39 (by decide) ?_
  refine q_fldI (k := 6) (ci := 5) (off := 5) (N0 := a + 1 + 1 + 1 + 1 + 1) (n := 200) (x0 := 0) (zs_Pr_worker ha) (by decide) d_Pr_init_42 (fun i j h => hz i j (by omega)) (by decide) zc_Pr l_Pr_27 (by decide +kernel) rfl rfl (by decide +kernel) d_Pr_init_44 ha hE (by omega) rfl ?_
  refine q_aload_n d_Pr_init_47 rfl ?_
  refine q_sub (b := a + 1 + 1 + 1 + 1 + 1 + 1) (t := 0) (s := 5) (P := fun D D' => D' = oneD D (a + 1 + 1 + 1 + 1 + 1 + 1 + 3)) zc_Fr zdv_Fr zi_Fr l_Pr_18 d_Pr_init_48 d_Pr_init_51 d_Pr_init_52 mc_Fr_init mi_Fr_init rfl l_Pr_30 rfl (zs_Pr_cost ha) rfl hE (fun i k h => eC_out ⟨by omega, h⟩) (fun i j h => hz i j (by omega)) (by decide) (fr_init (zs_Pr_cost ha)) ?_
  intro D1 e1
  refine q_fldO (k := 7) (ci := 5) (off := 6) (N0 := a + 1 + 1 + 1 + 1 + 1 + 1) (s := 5) zc_Pr l_Pr_31 (by decide +kernel) rfl rfl (ty := .object "SpeedKernel$Fraction") (by decide +kernel) (fun _ => rfl) (fun _ => rfl) d_Pr_init_55 ha hE (by omega) rfl (fun i k h1 h2 _ => by rw [updX_o (by omega), updX_o (by omega)]) ?_
  refine q_iconst d_Pr_init_58 (by decide) ?_
  refine q_istore_n d_Pr_init_59 (by decide) (L' := [vR a, vI 0]) rfl ?_
  rw [show updX (updX (fun _ _ => true) (a + 1 + 1 + 1) 0) (a + 1 + 1 + 1 + 1) 0 = updX (updX (fun _ _ => true) (a + 4) 0) (a + 3) 0 from updX_comm (by omega)]
  have d1 : DL (a + 6) (a + 11) D D1 := fun c hc => by rw [e1, oneD_off (by omega)]
  refine pr_loop1 (D0 := D) ha hE rfl (fun i j h => hz i j h) (fun i k h => updX_o (by omega)) (fun D2 d2 => ?_) 24 0 D1 (by omega) (fun c hc => d1 c (by omega))
  refine q_iconst d_Pr_init_85 (by decide) ?_
  refine q_istore_n d_Pr_init_86 (by decide) (L' := [vR a, vI 0]) rfl ?_
  rw [show updX (updX (fun _ _ => true) (a + 4) 0) (a + 3) 24 = updX (updX (fun _ _ => true) (a + 3) 24) (a + 4) 0 from updX_comm (by omega)]
  refine pr_loop2 (D0 := D) ha hE rfl (fun i j h => hz i j h) (fun i k h => updX_o (by omega)) (fun D3 d3 => ?_) 12 0 D2 (by omega) (fun c hc => d2 c (by omega))
  refine q_eCB (a := a) (s := 191) (ci := 5) (x := 0) (by decide) ha hE (by decide +kernel) (fun i k h1 h2 hr => ?_) ?_
  · by_cases z4 : i = a + 4
    · subst z4
      rw [updX_i]
      have w := zs_Pr_done ha
      unfold rp at hr
      rw [w] at hr
      rcases hr with hr | hr
      · exact absurd hr.1 (by show ¬ (5 : Nat) = 0; decide)
      · exact decide_eq_true hr.2
    · rw [updX_o z4]
      by_cases z3 : i = a + 3
      · subst z3
        rw [updX_i]
        have w := zs_Pr_rate ha
        unfold rp at hr
        rw [w] at hr
        rcases hr with hr | hr
        · exact absurd hr.1 (by show ¬ (5 : Nat) = 0; decide)
        · exact decide_eq_true hr.2
      · rw [updX_o z3]
  · exact q_vret d_Pr_init_112 rfl (by decide) ⟨rfl, rfl, d3⟩
end PRJ
