/-! split and step of the law, the whole -/
section LAS
variable {g : GG} {D : DD} {a b c : Int}
theorem la_split0 (z : D 9 0 = 0) : ATw g M_La_split hhS [vR 0, vR 734] D (rI (fun v D' => v = 1 ∧ D' = D)) := by
  refine atw_intro (by decide) (Nat.le_of_ble_eq_true rfl) rfl ?_
  refine f_aload_n d_La_split_0 rfl ?_
  refine f_iconst d_La_split_1 (by decide) ?_
  refine f_aload_n d_La_split_2 rfl ?_
  refine f_callT (as := []) (st := [vI 0, vR 734]) (a := 0) (hpc := 11) (ct := 13) mc_Ke_split mv_Ke_split l_La_7 zc_Ke rfl d_La_split_3 rfl rfl rfl zk_0 (zk_lt zk_0 (by decide)) (by decide) (ksplit0 z) (by unfold zDc; simp) (fun tbl h => ?_) ⟨by decide, cl_13⟩ (fun x => ?_)
  · obtain ⟨x, rfl, hx⟩ := tb_1 h
    simp only [Prod.mk.injEq] at hx
    obtain ⟨h1, h2, h3, h4⟩ := hx
    exact ⟨[], x, [], rfl, h3, h4, by simp [covers, h1, h2], fun y hy => by cases hy⟩
  · refine f_astore_n d_La_split_11 (by decide) (L' := [vR 0, vR 734, vR x]) rfl ?_
    exact zf_zg (q_iconst d_La_split_12 (by decide) (q_iret d_La_split_13 (Or.inl rfl) (by decide) (retI ⟨rfl, rfl⟩)))
theorem la_split1 {P : Int → DD → Prop} (h : CI g M_Ke_split [vR 0] D P) : ATw g M_La_split hhS [vR 0, vR 734] D (rI (fun v D' => v = 0 ∧ ∃ y D1, P y D1 ∧ D' = zw D1 734 0 y)) := by
  refine atw_intro (by decide) (Nat.le_of_ble_eq_true rfl) rfl ?_
  refine f_aload_n d_La_split_0 rfl ?_
  refine f_iconst d_La_split_1 (by decide) ?_
  refine f_aload_n d_La_split_2 rfl ?_
  refine f_callV (as := []) (st := [vI 0, vR 734]) (a := 0) mc_Ke_split mv_Ke_split l_La_7 zc_Ke rfl d_La_split_3 rfl rfl rfl zk_0 (zk_lt zk_0 (by decide)) (by decide) h (fun r E' D1 hr => ?_)
  obtain ⟨rfl, y, rfl, hy⟩ := hr
  refine f_i2l d_La_split_6 ?_
  refine f_last (n := 1) d_La_split_7 (show zk 734 = (2, 1, 0) by decide +kernel) (by decide +kernel) (by decide) (fun D' e => ?_)
  refine f_goto (tgt := 14) d_La_split_8 (by decide) ?_
  exact zf_zg (q_iconst d_La_split_14 (by decide) (q_iret d_La_split_15 (Or.inl rfl) (by decide) (retI ⟨rfl, y, D1, hy, e⟩)))
theorem kstep0 (h : INV D) (e : stepT D a b c = 0) : CI g M_Ke_step [vR 0, vI a, vI b, vI c] D (fun v D' => v = stepV D a b c ∧ D' = D) := by
  obtain ⟨t0, n, r, d, w, pl, lv, rt, ct, i1, i2, i3, i4, i5⟩ := h.inc
  unfold stepT at e
  split at e
  case isFalse => omega
  case isTrue hg =>
  split at e
  case isFalse => omega
  case isTrue hs =>
  have b24 : 0 ≤ b ∧ b < 24 := by
    rcases hs with ⟨_, z, q1, q2⟩ | ⟨_, z, q1, q2⟩
    · obtain ⟨_, x, L, _, _, ⟨fi, la, n', b', e', rt', _, pr, _⟩, _⟩ := i2.both i1.1 z
      have := pr.1
      have := pr.2.1
      omega
    · obtain ⟨_, x, _, ⟨fi, la, n', b', e', rt', _, pr, _⟩, _⟩ := i3.both i1.1 z
      have := pr.1
      have := pr.2.1
      omega
  have s41 : ∀ P : Nat, zk P = (0, 5, 0) → (D P 0 ≠ 0 ∧ 0 ≤ b ∧ b < D P 1) → (c = 0 → D (P + 1) b = stepV D a b c) → (c ≠ 0 → D (P + 2) b = stepV D a b c) → Sg g M_Ke_step (rI (fun v D' => v = stepV D a b c ∧ D' = D)) 41 [vR 0, vI a, vI b, vI c, vU] [vR P] D := fun P hP hp h0 h1 => by
    unfold Sg
    refine q_astore d_Ke_step_41 (by decide) (L' := [vR 0, vI a, vI b, vI c, vR P]) rfl ?_
    refine q_aload d_Ke_step_43 rfl ?_
    refine q_iload_n d_Ke_step_45 rfl ?_
    refine p_callV (as := [vI b]) (st := []) (a := P) mc_Pr_hasStep mv_Pr_hasStep l_Ke_138 zc_Pr rfl d_Ke_step_46 rfl rfl rfl hP (CI.to ?_)
    refine CI.intro mc_Pr_hasStep (Nat.le_of_ble_eq_true rfl) rfl (s_Pr_hasStep_0 hP ⟨fun q => absurd q hp.1, fun _ => ⟨fun q => by omega, fun _ => ⟨fun q => by omega, fun _ => retI ?_⟩⟩⟩)
    refine q_if_ne (tgt := 60) d_Ke_step_49 (by decide) (fun _ => ?_) (fun q => by omega)
    refine q_iload_n d_Ke_step_60 rfl ?_
    refine q_if_ne (tgt := 74) d_Ke_step_61 (by decide) (fun q => ?_) (fun q => ?_)
    · refine q_aload d_Ke_step_74 rfl ?_
      refine p_getRN (k := 3) (b := P + 2) zc_Pr l_Ke_147 fr_Pr_end d_Ke_step_76 hP rfl ?_
      refine q_iload_n d_Ke_step_79 rfl ?_
      refine p_iald d_Ke_step_80 (zs_Pr_end hP) b24 ?_
      exact q_iret d_Ke_step_81 (Or.inl rfl) ⟨Nat.le_refl _, Nat.le_refl _⟩ (retI ⟨h1 q, rfl⟩)
    · refine q_aload d_Ke_step_64 rfl ?_
      refine p_getRN (k := 2) (b := P + 1) zc_Pr l_Ke_144 fr_Pr_begin d_Ke_step_66 hP rfl ?_
      refine q_iload_n d_Ke_step_69 rfl ?_
      refine p_iald d_Ke_step_70 (zs_Pr_begin hP) b24 ?_
      refine q_goto (tgt := 81) d_Ke_step_71 (by decide) ?_
      exact q_iret d_Ke_step_81 (Or.inl rfl) ⟨Nat.le_refl _, Nat.le_refl _⟩ (retI ⟨h0 q, rfl⟩)
  have s26 : Sg g M_Ke_step (rI (fun v D' => v = stepV D a b c ∧ D' = D)) 26 [vR 0, vI a, vI b, vI c, vU] [] D := by
    unfold Sg
    refine q_iload_n d_Ke_step_26 rfl ?_
    refine q_if_ne (tgt := 37) d_Ke_step_27 (by decide) (fun q => ?_) (fun q => ?_)
    · refine q_aload_n d_Ke_step_37 rfl ?_
      refine p_getR (k := 3) (b := 200) zc_Ke l_Ke_30 fr_Ke_foreseen d_Ke_step_38 zk_0 rfl ?_
      refine s41 200 zk_200 (by rcases hs with hs | hs; exact absurd hs.1 q; exact hs.2) (fun z => ?_) (fun z => ?_)
      · unfold stepV; rw [if_neg q, if_pos z]
      · unfold stepV; rw [if_neg q, if_neg z]
    · refine q_aload_n d_Ke_step_30 rfl ?_
      refine p_getR (k := 2) (b := 9) zc_Ke l_Ke_26 fr_Ke_planned d_Ke_step_31 zk_0 rfl ?_
      refine q_goto (tgt := 41) d_Ke_step_34 (by decide) ?_
      refine s41 9 zk_9 (by rcases hs with hs | hs; exact hs.2; omega) (fun z => ?_) (fun z => ?_)
      · unfold stepV; rw [if_pos q, if_pos z]
      · unfold stepV; rw [if_pos q, if_neg z]
  have s9 : Sg g M_Ke_step (rI (fun v D' => v = stepV D a b c ∧ D' = D)) 9 [vR 0, vI a, vI b, vI c, vU] [] D := by
    unfold Sg
    refine q_iload_n d_Ke_step_9 rfl ?_
    refine q_if_eq (tgt := 26) d_Ke_step_10 (by decide) (fun _ => s26) (fun q => ?_)
    refine q_iload_n d_Ke_step_13 rfl ?_
    refine q_iconst d_Ke_step_14 (by decide) ?_
    exact q_icmp_eq (tgt := 26) d_Ke_step_15 (by decide) (fun _ => s26) (fun q2 => absurd hg.2 fun z => z.elim q q2)
  refine CI.intro mc_Ke_step (Nat.le_of_ble_eq_true rfl) rfl ?_
  unfold Sg
  refine q_iload_n d_Ke_step_0 rfl ?_
  refine q_if_eq (tgt := 9) d_Ke_step_1 (by decide) (fun _ => s9) (fun q => ?_)
  refine q_iload_n d_Ke_step_4 rfl ?_
  refine q_iconst d_Ke_step_5 (by decide) ?_
  exact q_icmp_ne (tgt := 18) d_Ke_step_6 (by decide) (fun q2 => absurd hg.1 fun z => z.elim q q2) (fun _ => s9)
theorem la_step1 (e : stepT D a b c = 1) : ATw g M_La_step hhT [vR 0, vI a, vI b, vI c, vR 734] D (rI (fun v D' => v = 1 ∧ D' = D)) := by
  refine atw_intro (by decide) (Nat.le_of_ble_eq_true rfl) rfl ?_
  refine f_aload d_La_step_0 rfl ?_
  refine f_iconst d_La_step_2 (by decide) ?_
  refine f_aload_n d_La_step_3 rfl ?_
  refine f_iload_n d_La_step_4 rfl ?_
  refine f_iload_n d_La_step_5 rfl ?_
  refine f_iload_n d_La_step_6 rfl ?_
  refine f_callT (as := [vI a, vI b, vI c]) (st := [vI 0, vR 734]) (a := 0) (hpc := 15) (ct := 19) mc_Ke_step mv_Ke_step l_La_15 zc_Ke rfl d_La_step_7 rfl rfl rfl zk_0 (zk_lt zk_0 (by decide)) (by decide) (kstep1 e) (by unfold zDc; simp) (fun tbl h => ?_) ⟨by decide, cl_19⟩ (fun x => ?_)
  · obtain ⟨x, y, rfl, hx, hy⟩ := tb_2 h
    simp only [Prod.mk.injEq] at hx
    obtain ⟨h1, h2, h3, h4⟩ := hx
    exact ⟨[], x, [y], rfl, h3, h4, by simp [covers, h1, h2], fun y hy => by cases hy⟩
  · refine f_astore d_La_step_15 (by decide) (L' := [vR 0, vI a, vI b, vI c, vR 734, vR x]) rfl ?_
    exact zf_zg (q_iconst d_La_step_17 (by decide) (q_iret d_La_step_18 (Or.inl rfl) (by decide) (retI ⟨rfl, rfl⟩)))
theorem la_step2 (e : stepT D a b c = 2) : ATw g M_La_step hhT [vR 0, vI a, vI b, vI c, vR 734] D (rI (fun v D' => v = 2 ∧ D' = D)) := by
  refine atw_intro (by decide) (Nat.le_of_ble_eq_true rfl) rfl ?_
  refine f_aload d_La_step_0 rfl ?_
  refine f_iconst d_La_step_2 (by decide) ?_
  refine f_aload_n d_La_step_3 rfl ?_
  refine f_iload_n d_La_step_4 rfl ?_
  refine f_iload_n d_La_step_5 rfl ?_
  refine f_iload_n d_La_step_6 rfl ?_
  refine f_callT (as := [vI a, vI b, vI c]) (st := [vI 0, vR 734]) (a := 0) (hpc := 19) (ct := 21) mc_Ke_step mv_Ke_step l_La_15 zc_Ke rfl d_La_step_7 rfl rfl rfl zk_0 (zk_lt zk_0 (by decide)) (by decide) (kstep2 e) (by unfold zDc; simp) (fun tbl h => ?_) ⟨by decide, cl_21⟩ (fun x => ?_)
  · obtain ⟨x, y, rfl, hx, hy⟩ := tb_2 h
    simp only [Prod.mk.injEq] at hx hy
    obtain ⟨h1, h2, h3, h4⟩ := hx
    obtain ⟨k1, k2, k3, k4⟩ := hy
    refine ⟨[x], y, [], rfl, k3, k4, by simp [covers, k1, k2], fun q hq => ?_⟩
    rw [List.mem_singleton] at hq
    subst hq
    rw [h4]
    exact ⟨by decide, _, cl_19, fun U hU => hU⟩
  · refine f_astore d_La_step_19 (by decide) (L' := [vR 0, vI a, vI b, vI c, vR 734, vR x]) rfl ?_
    exact zf_zg (q_iconst d_La_step_21 (by decide) (q_iret d_La_step_22 (Or.inl rfl) (by decide) (retI ⟨rfl, rfl⟩)))
theorem la_step0 {P : Int → DD → Prop} (h : CI g M_Ke_step [vR 0, vI a, vI b, vI c] D P) : ATw g M_La_step hhT [vR 0, vI a, vI b, vI c, vR 734] D (rI (fun v D' => v = 0 ∧ ∃ y D1, P y D1 ∧ D' = zw D1 734 0 y)) := by
  refine atw_intro (by decide) (Nat.le_of_ble_eq_true rfl) rfl ?_
  refine f_aload d_La_step_0 rfl ?_
  refine f_iconst d_La_step_2 (by decide) ?_
  refine f_aload_n d_La_step_3 rfl ?_
  refine f_iload_n d_La_step_4 rfl ?_
  refine f_iload_n d_La_step_5 rfl ?_
  refine f_iload_n d_La_step_6 rfl ?_
  refine f_callV (as := [vI a, vI b, vI c]) (st := [vI 0, vR 734]) (a := 0) mc_Ke_step mv_Ke_step l_La_15 zc_Ke rfl d_La_step_7 rfl rfl rfl zk_0 (zk_lt zk_0 (by decide)) (by decide) h (fun r E' D1 hr => ?_)
  obtain ⟨rfl, y, rfl, hy⟩ := hr
  refine f_i2l d_La_step_10 ?_
  refine f_last (n := 1) d_La_step_11 (show zk 734 = (2, 1, 0) by decide +kernel) (by decide +kernel) (by decide) (fun D' e => ?_)
  refine f_goto (tgt := 23) d_La_step_12 (by decide) ?_
  exact zf_zg (q_iconst d_La_step_23 (by decide) (q_iret d_La_step_24 (Or.inl rfl) (by decide) (retI ⟨rfl, y, D1, hy, e⟩)))
end LAS
