/-! the law, from its start to its end -/
section LAW2
variable {g : GG} {D : DD}
/-- the law answers 1 -/
def QL : Option VV → EE → DD → Prop := fun r _ _ => r = some (vI 1)
theorem law_end {L : List VV} {E : EE} {ca sa mc ms : Nat} (h : ca ≤ mc ∧ sa ≤ ms) : Zf (zfr g) (KL g) (FQ g QL mc ms) g M_La_law mc ms 739 L [] E D ca sa :=
  zf_zg (q_iconst d_La_law_739 (by decide) (q_iret d_La_law_740 (Or.inr ⟨rfl, by decide⟩) h rfl))
theorem law_loop {mc ms : Nat} (hL : gL g ≤ 2560) : ∀ (m : Nat) (i : Int) (D : DD) (ca sa : Nat), INV D → 0 ≤ i → (gL g : Int) < i + 5 * m → i ≤ 2565 → ca + m ≤ mc → sa + 6 * m ≤ ms → Zf (zfr g) (KL g) (FQ g QL mc ms) g M_La_law mc ms 23 (lL i) [] zE D ca sa := by
  intro m
  induction m with
  | zero =>
    intro i D ca sa hI h0 hm hb hc hs
    refine f_iload d_La_law_23 rfl ?_
    refine f_aload_nS d_La_law_25 rfl ?_
    refine f_slen d_La_law_26 (by omega) ?_
    refine f_iconst d_La_law_27 (by decide) ?_
    refine f_isub d_La_law_28 (by unfold R32; omega) ?_
    exact f_icmp_gt (tgt := 739) d_La_law_29 (by decide) (fun _ => law_end ⟨by omega, by omega⟩) (fun q => by omega)
  | succ m ih =>
    intro i D ca sa hI h0 hm hb hc hs
    refine f_iload d_La_law_23 rfl ?_
    refine f_aload_nS d_La_law_25 rfl ?_
    refine f_slen d_La_law_26 (by omega) ?_
    refine f_iconst d_La_law_27 (by decide) ?_
    refine f_isub d_La_law_28 (by unfold R32; omega) ?_
    refine f_icmp_gt (tgt := 739) d_La_law_29 (by decide) (fun _ => law_end ⟨by omega, by omega⟩) (fun q => ?_)
    have hi : 0 ≤ i ∧ i + 5 ≤ gL g := ⟨h0, by omega⟩
    have hcs : ca + 1 ≤ mc ∧ sa + 6 ≤ ms := ⟨by omega, by omega⟩
    have k : ∀ D2, INV D2 → Zf (zfr g) (KL g) (FQ g QL mc ms) g M_La_law mc ms 733 (lL i) [] zE D2 (ca + 1) (sa + 6) := fun D2 h2 => by
      refine f_iinc (x := i) (n := 5) d_La_law_733 rfl (by decide) (by unfold R32; omega) (L' := lL (i + 5)) rfl ?_
      refine f_goto (tgt := 23) d_La_law_736 (by decide) ?_
      exact ih (i + 5) D2 (ca + 1) (sa + 6) h2 (by omega) (by omega) (by omega) (by omega) (by omega)
    refine f_aload_nS d_La_law_32 rfl ?_
    refine f_iload d_La_law_33 rfl ?_
    refine f_sld d_La_law_35 ⟨by omega, by omega⟩ ?_
    refine f_bipush d_La_law_36 (by decide) ?_
    refine f_iand 5 d_La_law_38 ⟨by decide +kernel, by decide⟩ ?_
    generalize hw : ((gx g) i.toNat).toInt % 2 ^ 5 = w
    have hw2 : 0 ≤ w ∧ w < 32 := by omega
    by_cases z : w ≤ 16
    · rcases (show w = 0 ∨ w = 1 ∨ w = 2 ∨ w = 3 ∨ w = 4 ∨ w = 5 ∨ w = 6 ∨ w = 7 ∨ w = 8 ∨ w = 9 ∨ w = 10 ∨ w = 11 ∨ w = 12 ∨ w = 13 ∨ w = 14 ∨ w = 15 ∨ w = 16 by omega) with e | e | e | e | e | e | e | e | e | e | e | e | e | e | e | e | e
      · rw [e]
        exact f_tsIn (off := 81) (tgt := 120) d_La_law_39 (by decide) rfl (by decide) (law_0 hI hi hL hcs k)
      · rw [e]
        exact f_tsIn (off := 130) (tgt := 169) d_La_law_39 (by decide) rfl (by decide) (law_1 hI hi hL hcs k)
      · rw [e]
        exact f_tsIn (off := 167) (tgt := 206) d_La_law_39 (by decide) rfl (by decide) (law_2 hI hi hL hcs k)
      · rw [e]
        exact f_tsIn (off := 180) (tgt := 219) d_La_law_39 (by decide) rfl (by decide) (law_3 hI hi hL hcs k)
      · rw [e]
        exact f_tsIn (off := 193) (tgt := 232) d_La_law_39 (by decide) rfl (by decide) (law_4 hI hi hL hcs k)
      · rw [e]
        exact f_tsIn (off := 230) (tgt := 269) d_La_law_39 (by decide) rfl (by decide) (law_5 hI hi hL hcs k)
      · rw [e]
        exact f_tsIn (off := 243) (tgt := 282) d_La_law_39 (by decide) rfl (by decide) (law_6 hI hi hL hcs k)
      · rw [e]
        exact f_tsIn (off := 256) (tgt := 295) d_La_law_39 (by decide) rfl (by decide) (law_7 hI hi hL hcs k)
      · rw [e]
        exact f_tsIn (off := 300) (tgt := 339) d_La_law_39 (by decide) rfl (by decide) (law_8 hI hi hL hcs k)
      · rw [e]
        exact f_tsIn (off := 380) (tgt := 419) d_La_law_39 (by decide) rfl (by decide) (law_9 hI hi hL hcs k)
      · rw [e]
        exact f_tsIn (off := 417) (tgt := 456) d_La_law_39 (by decide) rfl (by decide) (law_10 hI hi hL hcs k)
      · rw [e]
        exact f_tsIn (off := 442) (tgt := 481) d_La_law_39 (by decide) rfl (by decide) (law_11 hI hi hL hcs k)
      · rw [e]
        exact f_tsIn (off := 503) (tgt := 542) d_La_law_39 (by decide) rfl (by decide) (law_12 hI hi hL hcs k)
      · rw [e]
        exact f_tsIn (off := 540) (tgt := 579) d_La_law_39 (by decide) rfl (by decide) (law_13 hI hi hL hcs k)
      · rw [e]
        exact f_tsIn (off := 581) (tgt := 620) d_La_law_39 (by decide) rfl (by decide) (law_14 hI hi hL hcs k)
      · rw [e]
        exact f_tsIn (off := 644) (tgt := 683) d_La_law_39 (by decide) rfl (by decide) (law_15 hI hi hL hcs k)
      · rw [e]
        exact f_tsIn (off := 681) (tgt := 720) d_La_law_39 (by decide) rfl (by decide) (law_16 hI hi hL hcs k)
    · exact f_tsOut (tgt := 733) d_La_law_39 (Or.inr (by omega)) (by decide) (zf_widen (k D hI) ⟨by omega, by omega⟩)
def E0 : EE := ((fun _ _ => false), 0, True)
def D0 : DD := fun _ _ => 0
theorem law_start (hL : gL g ≤ 2560) : Zf (zfr g) (KL g) (FQ g QL 601024 7293034) g M_La_law 601024 7293034 0 [vS, vU, vU, vU, vU, vU, vU, vU, vU] [] E0 D0 0 0 := by
  refine f_sub (b := 0) (t := 0) (s := 708) (P := fun _ D' => IK D') zc_Ke zdv_Ke zi_Ke l_La_8 d_La_law_0 d_La_law_3 d_La_law_4 mc_Ke_init mi_Ke_init rfl l_La_23 rfl zk_0 rfl trivial (fun i k h => rfl) (fun i j h => rfl) (by decide) ke_init ?_
  intro D1 hK
  refine f_astore_n d_La_law_7 (by decide) (L' := [vS, vR 0, vU, vU, vU, vU, vU, vU, vU]) rfl ?_
  refine f_sub (b := 708) (t := 0) (s := 26) (P := fun D D' => D' = D) zc_Mo zdv_Mo zi_Mo l_La_24 d_La_law_8 d_La_law_11 d_La_law_12 mc_Mo_init mi_Mo_init rfl l_La_26 rfl zk_708 rfl trivial (fun i k h => eB_out (by omega)) (fun i j h => hK.2.2.2.2.2 i j (by omega)) (by decide) mo_init ?_
  intro D2 e2
  subst e2
  refine f_astore_n d_La_law_15 (by decide) (L' := [vS, vR 0, vR 708, vU, vU, vU, vU, vU, vU]) rfl ?_
  refine f_iconst d_La_law_16 (by decide) ?_
  refine f_newJ (n := 1) (x0 := 0) (show zk 734 = (2, 1, 0) by decide +kernel) (by decide) d_La_law_17 trivial (fun j => hK.2.2.2.2.2 734 j (by decide)) (by decide) ?_
  refine f_astore_n d_La_law_19 (by decide) (L' := [vS, vR 0, vR 708, vR 734, vU, vU, vU, vU, vU]) rfl ?_
  refine f_iconst d_La_law_20 (by decide) ?_
  refine f_istore d_La_law_21 (by decide) (L' := lL 0) rfl ?_
  refine f_env (E' := zE) (fun H hH => hp_env hH (by decide +kernel) (fun q => q.elim) fun i hi k hr => ?_) ?_
  · show true = (eB (eP (eB (eP E0) 0 708)) 708 26).1 i k
    have hi' : i < 735 := hi
    rcases (show i < 708 ∨ (708 ≤ i ∧ i < 734) ∨ i = 734 by omega) with y | y | y
    · rw [eB_lo y]
      exact (eB_in (E := eP E0) (a := 0) (s := 708) (k := k) ⟨Nat.zero_le i, by omega⟩).symm
    · exact (eB_in (k := k) ⟨y.1, by omega⟩).symm
    · subst y
      exact absurd hr (rp_no (by rw [show zk 734 = (2, 1, 0) by decide +kernel]; decide))
  · exact law_loop hL 513 0 D2 735 41219 hK.inv (by omega) (by omega) (by omega) (by omega) (by omega)
end LAW2
