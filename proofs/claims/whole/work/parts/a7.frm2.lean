/-! Fraction made -/
theorem zdv_of {ci N : Nat} {T : u_T} {t : Nat → FieldType} (h1 : ∀ k, k < N → parseFieldDescriptor (T k).2.2.1 = some (t k)) (h2 : ∀ k, k < N → defaultValue (t k) = (if (zft ci k).1 = 2 then Value.null else .int 0)) : zdv ci T N := fun j hj => ⟨t j, h1 j hj, h2 j hj⟩
theorem zdv_Na : zdv 3 F_Na 2 := zdv_of t_Na_ok (by decide +kernel)
theorem zdv_Fr : zdv 4 F_Fr 2 := zdv_of t_Fr_ok (by decide +kernel)
section FRM2
variable {g : GG} {M M' : MI} {mc ms mc' ms' : Nat} {Q Q' : Option VV → EE → DD → Prop} {pc : Nat} {L st : List VV} {E E' : EE} {D : DD} {ca sa : Nat}
theorem eB_in {a s i k : Nat} (h : a ≤ i ∧ i < a + s) : (eB E a s).1 i k = true := by
  show (if i < a then E.1 i k else decide (i < a + s)) = true
  rw [if_neg (by omega)]; exact decide_eq_true (by omega)
theorem eB_out {a s i k : Nat} (h : a + s ≤ i) : (eB E a s).1 i k = false := by
  show (if i < a then E.1 i k else decide (i < a + s)) = false
  rw [if_neg (by omega)]; exact decide_eq_false (by omega)
theorem eB_lo {a s i k : Nat} (h : i < a) : (eB E a s).1 i k = E.1 i k := if_pos h
theorem eS_o {a k i j : Nat} (h : i ≠ a ∨ j ≠ k) : (eS E a k).1 i j = E.1 i j := if_neg fun q => by omega
theorem eS_i {a k : Nat} : (eS E a k).1 a k = true := if_pos ⟨rfl, rfl⟩
/-- a part made: new, dup, constructor of a mate -/
theorem q_subN {ci N index idx2 s b mc1 ms1 : Nat} {C h0 : String} {T : u_T} {P : DD → DD → Prop} (hc : ZC ci C T N) (hv : zdv ci T N) (hi : Cond.instantiable C N ∈ zT ∧ Cond.initialized C ∈ zT) (hcl : Cond.classLink (mY M).cls index C ∈ zT) (d0 : decode (mC M) pc = .ok (.new index, 3)) (d3 : decode (mC M) (pc + 3) = .ok (.dup, 1)) (d4 : decode (mC M) (pc + 3 + 1) = .ok (.invokespecial idx2, 3))
    (hM : MOK M' 0) (hV : MII M') (hr : mR M' = none) (hl : Cond.methodLinkNest (mY M).cls idx2 (mY M') h0 ∈ zNest) (hk : callok M M' (vR b :: st) = true) {t : Nat} (ha : zk b = (0, ci, t)) (hN : E.2.1 = b) (hE : E.2.2) (hf : ∀ i k, b ≤ i → E.1 i k = false) (hz : ∀ i j, b ≤ i → D i j = 0) (hcs : ca + 1 + mc1 ≤ mc ∧ sa + N + ms1 ≤ ms)
    (hA : ST (eP E) D b → AT g M' mc1 ms1 [vR b] (eP E) D (fun r E' D' => r = none ∧ E' = eB (eP E) b s ∧ P D D'))
    (kk : ∀ D', P D D' → Zg g M mc ms Q (pc + 3 + 1 + 3) L (vR b :: st) (eB (eP E) b s) D' (ca + 1 + mc1) (sa + N + ms1)) : Zg g M mc ms Q pc L st E D ca sa := by
  subst hN
  refine q_new hc hv hcl hi.1 hi.2 d0 ha hE (fun k => hf _ k (Nat.le_refl _)) (fun j => hz _ j (Nat.le_refl _)) ⟨by omega, by omega⟩ ?_
  refine q_dup d3 rfl ?_
  refine q_callIN (as := []) (st := vR E.2.1 :: st) hM hV hr hl d4 hk rfl rfl hcs (hA ⟨rfl, hE, hf, fun i j hi => hz i j (by omega)⟩) ?_
  rintro r E' D' ⟨rfl, rfl, hp⟩
  exact kk D' hp
theorem q_sub {ci N index idx2 s b mc1 ms1 : Nat} {C : String} {T : u_T} {P : DD → DD → Prop} (hc : ZC ci C T N) (hv : zdv ci T N) (hi : Cond.instantiable C N ∈ zT ∧ Cond.initialized C ∈ zT) (hcl : Cond.classLink (mY M).cls index C ∈ zT) (d0 : decode (mC M) pc = .ok (.new index, 3)) (d3 : decode (mC M) (pc + 3) = .ok (.dup, 1)) (d4 : decode (mC M) (pc + 3 + 1) = .ok (.invokespecial idx2, 3))
    (hM : MOK M' 0) (hV : MII M') (hr : mR M' = none) (hl : Cond.methodLink (mY M).cls idx2 (mY M') ∈ zT) (hk : callok M M' (vR b :: st) = true) {t : Nat} (ha : zk b = (0, ci, t)) (hN : E.2.1 = b) (hE : E.2.2) (hf : ∀ i k, b ≤ i → E.1 i k = false) (hz : ∀ i j, b ≤ i → D i j = 0) (hcs : ca + 1 + mc1 ≤ mc ∧ sa + N + ms1 ≤ ms)
    (hA : ST (eP E) D b → AT g M' mc1 ms1 [vR b] (eP E) D (fun r E' D' => r = none ∧ E' = eB (eP E) b s ∧ P D D'))
    (kk : ∀ D', P D D' → Zg g M mc ms Q (pc + 3 + 1 + 3) L (vR b :: st) (eB (eP E) b s) D' (ca + 1 + mc1) (sa + N + ms1)) : Zg g M mc ms Q pc L st E D ca sa := by
  subst hN
  refine q_new hc hv hcl hi.1 hi.2 d0 ha hE (fun k => hf _ k (Nat.le_refl _)) (fun j => hz _ j (Nat.le_refl _)) ⟨by omega, by omega⟩ ?_
  refine q_dup d3 rfl ?_
  refine q_callI (as := []) (st := vR E.2.1 :: st) hM hV hr hl d4 hk rfl rfl hcs (hA ⟨rfl, hE, hf, fun i j hi => hz i j (by omega)⟩) ?_
  rintro r E' D' ⟨rfl, rfl, hp⟩
  exact kk D' hp
theorem fr_init {a : Nat} (ha : zk a = (0, 4, 0)) (s0 : ST E D a) : AT g M_Fr_init 4 68 [vR a] E D (fun r E' D' => r = none ∧ E' = eB E a 5 ∧ D' = oneD D (a + 3)) := by
  obtain ⟨hN, hE, hf, hz⟩ := s0
  have z1 := zs_Fr_top ha
  have z3 := zs_Fr_below ha
  refine at_intro (L0 := [vR a]) mc_Fr_init (Nat.le_of_ble_eq_true rfl) rfl ?_
  refine q_aload_n d_Fr_init_0 rfl ?_
  refine q_objI l_Fr_1 zx_oi_linki zx_oi_linkc d_Fr_init_1 (by decide) ?_
  refine q_aload_n d_Fr_init_4 rfl ?_
  refine q_subN (P := fun D D' => D' = D) zc_Na zdv_Na zi_Na l_Fr_7 d_Fr_init_5 d_Fr_init_8 d_Fr_init_9 mc_Na_init mi_Na_init rfl l_Fr_9 rfl z1 hN hE (fun i k hi => hf i k (by omega)) (fun i j hi => hz i j (by omega)) (by decide) (na_init z1) ?_
  intro D' hD
  subst hD
  refine q_putRF (k := 0) (off := 1) zc_Fr l_Fr_10 (by decide +kernel) rfl rfl (ty := .object "SpeedKernel$Natural") (by decide +kernel) (fun _ => rfl) (fun _ => rfl) d_Fr_init_12 ha (by show a < a + 1 + 2; omega) rfl ?_
  refine q_aload_n d_Fr_init_15 rfl ?_
  refine q_subN (b := a + 3) (P := fun D D' => D' = D) zc_Na zdv_Na zi_Na l_Fr_7 d_Fr_init_16 d_Fr_init_19 d_Fr_init_20 mc_Na_init mi_Na_init rfl l_Fr_9 rfl z3 rfl hE (fun i k hi => by rw [eS_o (by omega), eB_out (by omega)]) (fun i j hi => hz i j (by omega)) (by decide) (na_init z3) ?_
  intro D'' hD
  subst hD
  refine q_putRF (k := 1) (off := 3) zc_Fr l_Fr_16 (by decide +kernel) rfl rfl (ty := .object "SpeedKernel$Natural") (by decide +kernel) (fun _ => rfl) (fun _ => rfl) d_Fr_init_23 ha (by show a < a + 3 + 2; omega) rfl ?_
  refine q_aload_n d_Fr_init_26 rfl ?_
  refine q_getR (k := 1) (off := 3) zc_Fr l_Fr_16 (by decide +kernel) d_Fr_init_27 ha (by show a < a + 3 + 2; omega) eS_i ?_
  refine q_lconst (x := 1) d_Fr_init_30 ⟨rfl, by decide⟩ ?_
  refine q_callV (as := [vL 1]) (st := []) mc_Na_setSmall mv_Na_setSmall l_Fr_19 zc_Na rfl d_Fr_init_31 (by decide) rfl rfl z3 (by show a + 3 < a + 3 + 2; omega) (by decide) (gs_one z3 (by show a + 3 + 1 < a + 3 + 2; omega) (by rw [eS_o (by omega), eB_in (by omega)])) ?_
  rintro r E' D' ⟨rfl, rfl, rfl⟩
  refine q_env_eB (E0 := E) (a := a) (s := 5) rfl ⟨hE, hE⟩ (fun i k hi => ?_) (fun i k h1 h2 hk => ?_) ?_
  · rw [eS_o (by omega), eB_lo (by omega)]
    show (eS _ a 0).1 i k = _
    rw [eS_o (by omega), eB_lo (by omega)]
    rfl
  · rcases (show i = a ∨ (a + 1 ≤ i ∧ i < a + 3) ∨ (a + 3 ≤ i ∧ i < a + 5) by omega) with y | y | y
    · subst y
      have q := rp_O ha hk
      have h2 : k < 2 := q.1
      rcases (show k = 0 ∨ k = 1 by omega) with z | z
      · subst z
        rw [eS_o (by omega), eB_lo (by omega)]
        exact eS_i
      · subst z; exact eS_i
    · rw [eS_o (by omega), eB_lo (by omega)]
      show (eS _ a 0).1 i k = _
      rw [eS_o (by omega), eB_in (by omega)]
    · rw [eS_o (by omega), eB_in (by omega)]
  · exact q_vret d_Fr_init_34 rfl (by decide) ⟨rfl, rfl, rfl⟩
end FRM2
