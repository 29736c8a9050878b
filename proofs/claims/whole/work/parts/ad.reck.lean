/-! Reckoner made -/
section REI
variable {g : GG} {M M' : MI} {mc ms mc' ms' : Nat} {pc : Nat} {L st : List VV} {E E0 : EE} {D D0 : DD} {ca sa : Nat} {F : Nat → Bool} {X : Nat → Nat → Bool} {Q : Option VV → EE → DD → Prop} {a : Nat}
/-- an element that is a new Natural -/
theorem q_eltN {n t r j N a k0 idx1 idx2 : Nat} {h0 : String} (hcl : Cond.classLink (mY M).cls idx1 "SpeedKernel$Natural" ∈ zT) (hl : Cond.methodLinkNest (mY M).cls idx2 M_Na_init.1 h0 ∈ zNest) (hk : callok M M_Na_init (vR N :: vI j :: vR r :: st) = true) (d0 : decode (mC M) pc = .ok (.new idx1, 3)) (d3 : decode (mC M) (pc + 3) = .ok (.dup, 1)) (d4 : decode (mC M) (pc + 3 + 1) = .ok (.invokespecial idx2, 3)) (d7 : decode (mC M) (pc + 3 + 1 + 3) = .ok (.aastore, 1))
    (hta : (ztys g)[k0]? = some (gA g (zra t).1, .object "SpeedKernel$Natural")) (hr : zk r = (5, n, t)) (hrN : a < r ∧ r < N) (hb : zk N = (0, 3, 0)) (hbe : N = r + (zra t).2.1 + (zra t).2.2 * j) (hj : j < n ∧ n ≤ 1000) (hE : E0.2.2) (hz : ∀ i j, N ≤ i → D i j = 0) (hcs : ca + 1 + 1 ≤ mc ∧ sa + 2 + 32 ≤ ms)
    (hX : ∀ i k, N ≤ i → i < N + 2 → rp i k → X i k = true)
    (kk : Zg g M mc ms Q (pc + 3 + 1 + 3 + 1) L st (eC E0 a (N + 2) F (updX X r (j + 1))) D (ca + 1 + 1) (sa + 2 + 32)) : Zg g M mc ms Q pc L (vI j :: vR r :: st) (eC E0 a N F (updX X r j)) D ca sa := by
  refine q_subN (b := N) (t := 0) (s := 2) (P := fun D D' => D' = D) zc_Na zdv_Na zi_Na hcl d0 d3 d4 mc_Na_init mi_Na_init rfl hl hk hb rfl hE (fun i k h => eC_out ⟨by omega, h⟩) hz hcs (na_init hb) ?_
  rintro _ rfl
  exact q_elt (rc := (R_Na, F_Na, 2)) rfl hta d7 hr hrN hb (by decide) hbe hj hE hX kk
theorem updX_all {n t r : Nat} (w : zk r = (5, n, t)) (i k : Nat) (hr : rp i k) : updX (fun _ _ => true) r n i k = true := by
  by_cases z : i = r
  · subst z
    rw [updX_i]
    unfold rp at hr
    rw [w] at hr
    rcases hr with hr | hr
    · exact absurd hr.1 (by show ¬ (5 : Nat) = 0; decide)
    · exact decide_eq_true hr.2
  · rw [updX_o z]
theorem re_loop (hE : E0.2.2) (hF : F 8 = true) (hz : ∀ i j, 409 ≤ i → D i j = 0)
    (hk : Zg g M_Re_init 65 1112 Q 128 [vR 391, vI 24] [] (eC E0 391 (457) F (updX (fun _ _ => true) 408 24)) D (17 + 24 * 2) (296 + 24 * 34)) :
    ∀ (m j : Nat), j + m = 24 → Zg g M_Re_init 65 1112 Q 103 [vR 391, vI j] [] (eC E0 391 (409 + 2 * j) F (updX (fun _ _ => true) 408 j)) D (17 + j * 2) (296 + j * 34) := by
  intro m
  induction m with
  | zero =>
    intro j hm
    obtain rfl : j = 24 := by omega
    refine q_iload_n d_Re_init_103 rfl ?_
    refine q_bipush d_Re_init_104 (by decide) ?_
    exact q_icmp_ge (tgt := 128) d_Re_init_106 (by decide) (fun _ => hk) (fun q => by omega)
  | succ m ih =>
    intro j hm
    refine q_iload_n d_Re_init_103 rfl ?_
    refine q_bipush d_Re_init_104 (by decide) ?_
    refine q_icmp_ge (tgt := 128) d_Re_init_106 (by decide) (fun q => by omega) (fun _ => ?_)
    refine q_aload_n d_Re_init_109 rfl ?_
    refine q_getR (k := 8) (off := 17) zc_Re l_Re_39 (by decide +kernel) d_Re_init_110 (by decide +kernel) (by show 391 < 409 + 2 * j; omega) (by rw [eC_at]; exact hF) ?_
    refine q_iload_n d_Re_init_113 rfl ?_
    have zr : zk (409 + 2 * j) = (0, 3, 0) := by
      have : ∀ j : Fin 24, zk (409 + 2 * j.val) = (0, 3, 0) := by decide +kernel
      exact this ⟨j, by omega⟩
    refine q_eltN (N := 409 + 2 * j) (k0 := 4) (t := 2) (n := 24) l_Re_9 l_Re_11 rfl d_Re_init_114 d_Re_init_117 d_Re_init_118 d_Re_init_121 rfl (show zk 408 = (5, 24, 2) by decide +kernel) (by omega) zr (by show 409 + 2 * j = 408 + 1 + 2 * j; omega) (by omega) hE (fun i k h => hz i k (by omega)) (by omega) (fun i k h1 h2 _ => rfl) ?_
    refine q_iinc (x := j) (n := 1) d_Re_init_122 rfl (by decide) (by unfold R32; omega) (L' := [vR 391, vI ((j + 1 : Nat) : Int)]) rfl ?_
    refine q_goto (tgt := 103) d_Re_init_125 (by decide) ?_
    have go := ih (j + 1) (by omega)
    rw [show 409 + 2 * (j + 1) = 409 + 2 * j + 2 by omega, show 17 + (j + 1) * 2 = 17 + j * 2 + 1 + 1 by omega, show 296 + (j + 1) * 34 = 296 + j * 34 + 2 + 32 by omega] at go
    exact go
theorem re_init (s0 : ST E D 391) : AT g M_Re_init 65 1112 [vR 391] E D (fun r E' D' => r = none ∧ E' = eB E 391 66 ∧ D' = D) := by
  have hE := s0.2.1
  have hz := s0.2.2.2
  refine at_intro (L0 := [vR 391, vU]) mc_Re_init (Nat.le_of_ble_eq_true rfl) rfl (q_eC s0 ?_)
  refine q_aload_n d_Re_init_0 rfl ?_
  refine q_objI l_Re_3 zx_oi_linki zx_oi_linkc d_Re_init_1 (by decide) ?_
  refine q_aload_n d_Re_init_4 rfl ?_
  refine q_subN (b := 392) (t := 0) (s := 2) (P := fun D D' => D' = D) zc_Na zdv_Na zi_Na l_Re_9 d_Re_init_5 d_Re_init_8 d_Re_init_9 mc_Na_init mi_Na_init rfl l_Re_11 rfl (by decide +kernel) rfl hE (fun i k h => eC_out ⟨by decide, h⟩) (fun i j h => hz i j (by omega)) (by decide) (na_init (by decide +kernel)) ?_
  rintro _ rfl
  refine q_fldO (k := 0) (ci := 6) (off := 1) (N0 := 392) (s := 2) zc_Re l_Re_12 (by decide +kernel) rfl rfl (ty := .object "SpeedKernel$Natural") (by decide +kernel) (fun _ => rfl) (fun _ => rfl) d_Re_init_12 (by decide +kernel) hE (by decide) rfl (fun i k h1 h2 _ => rfl) ?_
  refine q_aload_n d_Re_init_15 rfl ?_
  refine q_subN (b := 394) (t := 0) (s := 2) (P := fun D D' => D' = D) zc_Na zdv_Na zi_Na l_Re_9 d_Re_init_16 d_Re_init_19 d_Re_init_20 mc_Na_init mi_Na_init rfl l_Re_11 rfl (by decide +kernel) rfl hE (fun i k h => eC_out ⟨by decide, h⟩) (fun i j h => hz i j (by omega)) (by decide) (na_init (by decide +kernel)) ?_
  rintro _ rfl
  refine q_fldO (k := 1) (ci := 6) (off := 3) (N0 := 394) (s := 2) zc_Re l_Re_18 (by decide +kernel) rfl rfl (ty := .object "SpeedKernel$Natural") (by decide +kernel) (fun _ => rfl) (fun _ => rfl) d_Re_init_23 (by decide +kernel) hE (by decide) rfl (fun i k h1 h2 _ => rfl) ?_
  refine q_aload_n d_Re_init_26 rfl ?_
  refine q_subN (b := 396) (t := 0) (s := 2) (P := fun D D' => D' = D) zc_Na zdv_Na zi_Na l_Re_9 d_Re_init_27 d_Re_init_30 d_Re_init_31 mc_Na_init mi_Na_init rfl l_Re_11 rfl (by decide +kernel) rfl hE (fun i k h => eC_out ⟨by decide, h⟩) (fun i j h => hz i j (by omega)) (by decide) (na_init (by decide +kernel)) ?_
  rintro _ rfl
  refine q_fldO (k := 2) (ci := 6) (off := 5) (N0 := 396) (s := 2) zc_Re l_Re_21 (by decide +kernel) rfl rfl (ty := .object "SpeedKernel$Natural") (by decide +kernel) (fun _ => rfl) (fun _ => rfl) d_Re_init_34 (by decide +kernel) hE (by decide) rfl (fun i k h1 h2 _ => rfl) ?_
  refine q_aload_n d_Re_init_37 rfl ?_
  refine q_subN (b := 398) (t := 0) (s := 2) (P := fun D D' => D' = D) zc_Na zdv_Na zi_Na l_Re_9 d_Re_init_38 d_Re_init_41 d_Re_init_42 mc_Na_init mi_Na_init rfl l_Re_11 rfl (by decide +kernel) rfl hE (fun i k h => eC_out ⟨by decide, h⟩) (fun i j h => hz i j (by omega)) (by decide) (na_init (by decide +kernel)) ?_
  rintro _ rfl
  refine q_fldO (k := 3) (ci := 6) (off := 7) (N0 := 398) (s := 2) zc_Re l_Re_24 (by decide +kernel) rfl rfl (ty := .object "SpeedKernel$Natural") (by decide +kernel) (fun _ => rfl) (fun _ => rfl) d_Re_init_45 (by decide +kernel) hE (by decide) rfl (fun i k h1 h2 _ => rfl) ?_
  refine q_aload_n d_Re_init_48 rfl ?_
  refine q_subN (b := 400) (t := 0) (s := 2) (P := fun D D' => D' = D) zc_Na zdv_Na zi_Na l_Re_9 d_Re_init_49 d_Re_init_52 d_Re_init_53 mc_Na_init mi_Na_init rfl l_Re_11 rfl (by decide +kernel) rfl hE (fun i k h => eC_out ⟨by decide, h⟩) (fun i j h => hz i j (by omega)) (by decide) (na_init (by decide +kernel)) ?_
  rintro _ rfl
  refine q_fldO (k := 4) (ci := 6) (off := 9) (N0 := 400) (s := 2) zc_Re l_Re_27 (by decide +kernel) rfl rfl (ty := .object "SpeedKernel$Natural") (by decide +kernel) (fun _ => rfl) (fun _ => rfl) d_Re_init_56 (by decide +kernel) hE (by decide) rfl (fun i k h1 h2 _ => rfl) ?_
  refine q_aload_n d_Re_init_59 rfl ?_
  refine q_subN (b := 402) (t := 0) (s := 2) (P := fun D D' => D' = D) zc_Na zdv_Na zi_Na l_Re_9 d_Re_init_60 d_Re_init_63 d_Re_init_64 mc_Na_init mi_Na_init rfl l_Re_11 rfl (by decide +kernel) rfl hE (fun i k h => eC_out ⟨by decide, h⟩) (fun i j h => hz i j (by omega)) (by decide) (na_init (by decide +kernel)) ?_
  rintro _ rfl
  refine q_fldO (k := 5) (ci := 6) (off := 11) (N0 := 402) (s := 2) zc_Re l_Re_30 (by decide +kernel) rfl rfl (ty := .object "SpeedKernel$Natural") (by decide +kernel) (fun _ => rfl) (fun _ => rfl) d_Re_init_67 (by decide +kernel) hE (by decide) rfl (fun i k h1 h2 _ => rfl) ?_
  refine q_aload_n d_Re_init_70 rfl ?_
  refine q_subN (b := 404) (t := 0) (s := 2) (P := fun D D' => D' = D) zc_Na zdv_Na zi_Na l_Re_9 d_Re_init_71 d_Re_init_74 d_Re_init_75 mc_Na_init mi_Na_init rfl l_Re_11 rfl (by decide +kernel) rfl hE (fun i k h => eC_out ⟨by decide, h⟩) (fun i j h => hz i j (by omega)) (by decide) (na_init (by decide +kernel)) ?_
  rintro _ rfl
  refine q_fldO (k := 6) (ci := 6) (off := 13) (N0 := 404) (s := 2) zc_Re l_Re_33 (by decide +kernel) rfl rfl (ty := .object "SpeedKernel$Natural") (by decide +kernel) (fun _ => rfl) (fun _ => rfl) d_Re_init_78 (by decide +kernel) hE (by decide) rfl (fun i k h1 h2 _ => rfl) ?_
  refine q_aload_n d_Re_init_81 rfl ?_
  refine q_subN (b := 406) (t := 0) (s := 2) (P := fun D D' => D' = D) zc_Na zdv_Na zi_Na l_Re_9 d_Re_init_82 d_Re_init_85 d_Re_init_86 mc_Na_init mi_Na_init rfl l_Re_11 rfl (by decide +kernel) rfl hE (fun i k h => eC_out ⟨by decide, h⟩) (fun i j h => hz i j (by omega)) (by decide) (na_init (by decide +kernel)) ?_
  rintro _ rfl
  refine q_fldO (k := 7) (ci := 6) (off := 15) (N0 := 406) (s := 2) zc_Re l_Re_36 (by decide +kernel) rfl rfl (ty := .object "SpeedKernel$Natural") (by decide +kernel) (fun _ => rfl) (fun _ => rfl) d_Re_init_89 (by decide +kernel) hE (by decide) rfl (fun i k h1 h2 _ => rfl) ?_
  refine q_aload_n d_Re_init_92 rfl ?_
  refine q_bipush d_Re_init_93 (by decide) ?_
  refine q_fldR (k := 8) (ci := 6) (off := 17) (N0 := 408) (n := 24) (t := 2) (k0 := 4) (Or.inl rfl) l_Re_9 rfl (by decide +kernel) (by decide) d_Re_init_95 (fun i j h => hz i j (by omega)) (by decide) zc_Re l_Re_39 (by decide +kernel) rfl rfl (by decide +kernel) d_Re_init_98 (by decide +kernel) hE (by decide) rfl ?_
  refine q_iconst d_Re_init_101 (by decide) ?_
  refine q_istore_n d_Re_init_102 (by decide) (L' := [vR 391, vI 0]) rfl ?_
  refine re_loop hE rfl (fun i j h => hz i j (by omega)) ?_ 24 0 (by omega)
  refine q_eCB (a := 391) (s := 66) (ci := 6) (x := 0) (by decide) (by decide +kernel) hE (by decide +kernel) (fun i k _ _ hr => updX_all (t := 2) (by decide +kernel) i k hr) ?_
  exact q_vret d_Re_init_128 rfl (by decide) ⟨rfl, rfl, rfl⟩
end REI
