/-! Natural.setSmall while the world grows; Fraction made -/
section FRM
variable {g : GG} {M M' : MI} {mc ms mc' ms' : Nat} {Q Q' : Option VV → EE → DD → Prop} {pc : Nat} {L st : List VV} {E E' : EE} {D : DD} {ca sa : Nat}
theorem gs_Na_setSmall_0 {a0 : Nat} {x1 : Int} (k_a0 : zk a0 = (0, 3, 0)) (hn : a0 + 1 < E.2.1) (h1 : E.1 a0 0 = true) (hcs : ca ≤ mc ∧ sa ≤ ms) (h : (∀ D1, D1 = zw D a0 1 0 → Zg g M_Na_setSmall mc ms Q 7 [vR a0, vL x1, vU, vL x1, vU] [] E D1 ca sa)) : Zg g M_Na_setSmall mc ms Q 0 [vR a0, vL x1, vU, vU, vU] [] E D ca sa := by
  refine q_aload_n d_Na_setSmall_0 rfl ?_
  refine q_iconst d_Na_setSmall_1 (by decide) ?_
  refine q_putI (k := 1) zc_Na l_Na_15 fp_Na_size (Or.inl rfl) d_Na_setSmall_2 k_a0 (by omega) (fun D1 e2 => ?_)
  have h := h D1 e2
  refine q_lload_n d_Na_setSmall_5 rfl ?_
  refine q_lstore_n d_Na_setSmall_6 (by decide) (L' := [vR a0, vL x1, vU, vL x1, vU]) rfl ?_
  exact h
theorem gs_Na_setSmall_7 {a0 : Nat} {z1 : VV} {z2 : VV} {x3 : Int} (k_a0 : zk a0 = (0, 3, 0)) (hn : a0 + 1 < E.2.1) (h1 : E.1 a0 0 = true) (hcs : ca ≤ mc ∧ sa ≤ ms) (h : ((x3 ≤ 0 → Q none E D) ∧ (¬ x3 ≤ 0 → ((32 ≤ (D a0 1) → Q none E D) ∧ (¬ 32 ≤ (D a0 1) → (R32 (x3 % 2 ^ 31) ∧ (0 ≤ D a0 1 ∧ D a0 1 < 32)) ∧ (∀ D5, D5 = zw D (a0 + 1) (D a0 1) (x3 % 2 ^ 31) → (R32 ((D5 a0 1) + 1)) ∧ (∀ D8, D8 = zw D5 a0 1 ((D5 a0 1) + 1) → Zg g M_Na_setSmall mc ms Q 7 [vR a0, vU, vU, vL (x3 / 2 ^ 31), vU] [] E D8 ca sa))))))) : Zg g M_Na_setSmall mc ms Q 7 [vR a0, z1, z2, vL x3, vU] [] E D ca sa := by
  refine q_mask [false, true, true, false, false] (L' := [vR a0, vU, vU, vL x3, vU]) rfl ?_
  refine q_lload_n d_Na_setSmall_7 rfl ?_
  refine q_lconst (x := 0) d_Na_setSmall_8 ⟨rfl, by decide⟩ ?_
  refine q_lcmp d_Na_setSmall_9 ?_
  refine q_if_le (tgt := 55) d_Na_setSmall_10 (by decide) (fun c1 => ?_) (fun c1 => ?_)
  · have h := h.1 (zcmp_le.mp c1)
    exact q_vret d_Na_setSmall_55 rfl hcs h
  · have h := h.2 ((not_congr zcmp_le).mp c1)
    refine q_aload_n d_Na_setSmall_13 rfl ?_
    refine q_getI (k := 1) zc_Na l_Na_15 fi_Na_size d_Na_setSmall_14 k_a0 (by omega) ?_
    refine q_bipush d_Na_setSmall_17 kb_32 ?_
    refine q_icmp_ge (tgt := 55) d_Na_setSmall_19 (by decide) (fun c2 => ?_) (fun c2 => ?_)
    · have h := h.1 (c2)
      exact q_vret d_Na_setSmall_55 rfl hcs h
    · have h := h.2 (c2)
      obtain ⟨⟨o3, o4⟩, h⟩ := h
      refine q_aload_n d_Na_setSmall_22 rfl ?_
      refine q_getR (k := 0) zc_Na l_Na_9 fr_Na_digits d_Na_setSmall_23 k_a0 (by omega) h1 ?_
      refine q_aload_n d_Na_setSmall_26 rfl ?_
      refine q_getI (k := 1) zc_Na l_Na_15 fi_Na_size d_Na_setSmall_27 k_a0 (by omega) ?_
      refine q_lload_n d_Na_setSmall_30 rfl ?_
      refine q_ldc2 (x := 2147483647) l_Na_19 d_Na_setSmall_31 (by decide) ?_
      refine q_land 31 d_Na_setSmall_34 ⟨by decide +kernel, by decide⟩ ?_
      refine q_l2i d_Na_setSmall_35 o3 ?_
      refine q_iast d_Na_setSmall_36 (zs_Na_digits k_a0) (by omega) o4 (fun D5 e6 => ?_)
      have h := h D5 e6
      obtain ⟨o7, h⟩ := h
      refine q_aload_n d_Na_setSmall_37 rfl ?_
      refine q_dup d_Na_setSmall_38 rfl ?_
      refine q_getI (k := 1) zc_Na l_Na_15 fi_Na_size d_Na_setSmall_39 k_a0 (by omega) ?_
      refine q_iconst d_Na_setSmall_42 (by decide) ?_
      refine q_iadd d_Na_setSmall_43 o7 ?_
      refine q_putI (k := 1) zc_Na l_Na_15 fp_Na_size (Or.inl rfl) d_Na_setSmall_44 k_a0 (by omega) (fun D8 e9 => ?_)
      have h := h D8 e9
      refine q_lload_n d_Na_setSmall_47 rfl ?_
      refine q_bipush d_Na_setSmall_48 kb_31 ?_
      refine q_lshr d_Na_setSmall_50 (by decide) ?_
      refine q_lstore_n d_Na_setSmall_51 (by decide) (L' := [vR a0, vU, vU, vL (x3 / 2 ^ 31), vU]) rfl ?_
      refine q_goto (tgt := 7) d_Na_setSmall_52 (by decide) ?_
      exact h
/-- a Natural that holds 1 -/
def oneD (D : DD) (b : Nat) : DD := zw (zw (zw D b 1 0) (b + 1) 0 1) b 1 1
theorem gs_one {a0 : Nat} (k_a0 : zk a0 = (0, 3, 0)) (hn : a0 + 1 < E.2.1) (h1 : E.1 a0 0 = true) : AT g M_Na_setSmall 0 0 [vR a0, vL 1] E D (fun r E' D' => r = none ∧ E' = E ∧ D' = oneD D a0) := by
  refine at_intro (L0 := [vR a0, vL 1, vU, vU, vU]) mc_Na_setSmall (Nat.le_of_ble_eq_true rfl) rfl ?_
  refine gs_Na_setSmall_0 k_a0 hn h1 ⟨Nat.le_refl _, Nat.le_refl _⟩ fun D1 e1 => ?_
  have d1 : D1 a0 1 = 0 := by rw [e1, zw_eq]
  refine gs_Na_setSmall_7 k_a0 hn h1 ⟨Nat.le_refl _, Nat.le_refl _⟩ ⟨fun q => by omega, fun _ => ⟨fun q => by omega, fun _ => ?_⟩⟩
  rw [d1]
  refine ⟨⟨by decide, by omega⟩, fun D5 e5 => ?_⟩
  have d5 : D5 a0 1 = 0 := by rw [e5, zw_off (by omega)]; exact d1
  rw [d5]
  refine ⟨by decide, fun D8 e8 => gs_Na_setSmall_7 k_a0 hn h1 ⟨Nat.le_refl _, Nat.le_refl _⟩ ⟨fun _ => ⟨rfl, rfl, ?_⟩, fun q => absurd (by decide) q⟩⟩
  rw [e8, e5, e1]
  rfl
end FRM
