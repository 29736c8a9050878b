/-! Foresight: findDensest, setRate, setEnd, rescale -/
section FORE3
variable {g : GG} {D D0 : DD} {n a : Nat} {r d w : Nat → Int} {pl : Nat → Nat} {R : Nat → Rat} {c : Int} {v : Nat → Int}
theorem foFind_ok (f : JF n r d w pl) (h0 : JC D n r d w pl) (hv : FS D n R c v) (hR : ∀ j, j < n → 0 ≤ R j ∧ R j ≤ 1000) {now : Nat} (hnow : now < 200) (dead : ∀ j, j < n → d j ≤ (now : Int) → R j = 0) :
    CV g M_Fo_findDensest [vR 530, vR 1, vI now] D (fun D' => FR 530 531 534 544 D D' ∧ ∃ dv Ds, Na D' 534 dv ∧ D' 530 3 = Ds ∧ ((dv = 0 ∧ Ds = now ∧ Dn n r d now R 0) ∨ ∃ (E : Nat) (s : Rat), Ds = E ∧ now < E ∧ E ≤ 200 ∧ (∃ j, j < n ∧ d j = E) ∧ 0 < dv ∧ 0 < s ∧ Dn n r d now R s ∧ kn n r d now R E = s * ((E : Rat) - (now : Rat)) ∧ (dv : Rat) = kn n r d now R E * (c : Rat))) := by
  refine CV.intro mc_Fo_findDensest (Nat.le_of_ble_eq_true rfl) rfl (s_Fo_findDensest_0 ((setSmall_ok (a := 534) zf_534 (by omega)).mono fun D2 r2 => s_Fo_findDensest_8 fun D3 e3 => (setSmall_ok (a := 536) zf_536 (by omega)).mono fun D4 r4 => s_Fo_findDensest_21 ?_))
  have F : FR 530 531 534 544 D D4 := ((FR.fa r2.2 (by omega)).tr (by rw [e3]; exact FR.w (by omega))).tr (FR.fa r4.2 (by omega))
  refine zg_post (foFind_loop f (h0.fr F (by omega)) (hv.fr f.1 F (by omega)) hR hnow dead n 0 now 0 0 D4 _ (by omega) FR.rf ?_ ?_ r4.1 ?_ (Or.inl ⟨rfl, rfl, rfl⟩)) ?_
  · rw [r4.2 530 (by omega) (by omega), e3, zw_eq]
  · exact Na.far (r2.1.of (by rw [e3]; exact zw_off (by omega)) (by rw [e3]; exact zw_off (by omega))) r4.2 (by omega)
  · rw [cum_0, Rat.zero_mul]; rfl
  · rintro _ _ _ ⟨q1, q2, q3, dv, Ds, q4, q5, q6⟩
    exact ⟨q1, q2, F.tr q3, dv, Ds, q4, q5, fd_end f (fun j hj => (hR j hj).1) dead q6 hv.2.1⟩
theorem setRate_ok {dv aim : Int} (hd : Na D 534 dv) (hc : Na D 532 c) (h0 : 0 ≤ aim ∧ aim ≤ 200) (hc2 : 0 < c ∧ c < 2 ^ 90) : CV g M_Fo_setRate [vR 530, vI aim] D (fun D' => Fp D' 544 dv (if aim ≤ 0 then 1 else c * aim) ∧ FR 544 549 544 549 D D') := by
  have bb := BB130
  have m1 := pow90 (k := aim) hc2 (by omega)
  have m2 : aim * c = c * aim := Int.mul_comm _ _
  refine CV.intro mc_Fo_setRate (Nat.le_of_ble_eq_true rfl) rfl (s_Fo_setRate_0 ((copyFrom_ok (a := 545) (b := 534) zf_545 zf_534 hd).mono fun D2 r2 => s_Fo_setRate_14 ((setSmall_ok (a := 547) zf_547 (x := 1) (by omega)).mono fun D3 r3 => s_Fo_setRate_25 ⟨fun q => retV ?_, fun q => ?_⟩)))
  · rw [if_pos q]
    exact ⟨⟨r2.1.far r3.2 (by omega), r3.1⟩, (FR.fa r2.2 (by omega)).tr (FR.fa r3.2 (by omega))⟩
  · rw [if_neg q]
    refine (copyFrom_ok (a := 547) (b := 532) zf_547 zf_532 ((hc.far r2.2 (by omega)).far r3.2 (by omega))).mono fun D4 r4 => s_Fo_setRate_43 ((times_ok (a := 547) zf_547 r4.1 (by omega) (by omega)).mono fun D5 r5 => s_Fo_setRate_54 (retV ?_))
    exact ⟨⟨((r2.1.far r3.2 (by omega)).far r4.2 (by omega)).far r5.2 (by omega), r5.1⟩, ((FR.fa r2.2 (by omega)).tr (FR.fa r3.2 (by omega))).tr ((FR.fa r4.2 (by omega)).tr (FR.fa r5.2 (by omega)))⟩
theorem setEnd_ok (k : zk a = (0, 5, 0)) {j : Nat} (hj : j < 12) {dv Sv now : Int} (hd : Na D 534 dv) (hs : Na D 536 Sv) (hd0 : 0 < dv) (hn : 0 ≤ now) (hb : dv * now < BB ^ 32) (hb2 : dv * now + Sv < BB ^ 32) : CV g M_Fo_setEnd [vR 530, vR a, vI j, vI now] D (fun D' => Fp D' (a + 131 + 5 * j) (dv * now + Sv) dv ∧ FR (a + 131 + 5 * j) (a + 136 + 5 * j) (a + 131 + 5 * j) (a + 136 + 5 * j) D D') := by
  have pa := pr_at k
  have kd := zk_done k hj
  have kt := zs_Fr_top kd
  have kb := zs_Fr_below kd
  refine CV.intro mc_Fo_setEnd (Nat.le_of_ble_eq_true rfl) rfl (s_Fo_setEnd_0 k ⟨fun q => by omega, fun _ => ⟨fun q => by omega, fun _ => (isZero_ok zf_534 hd).mono fun y D2 r2 => ?_⟩⟩)
  obtain ⟨rfl, rfl⟩ := r2
  refine s_Fo_setEnd_17 k ⟨fun _ => ⟨by omega, ?_⟩, fun q => by rw [if_neg (by omega)] at q; omega⟩
  rw [Int.toNat_natCast]
  refine (copyFrom_ok (b := 534) kb zf_534 hd).mono fun D3 r3 => s_Fo_setEnd_41 kd ((copyFrom_ok (b := 534) kt zf_534 (hd.far r3.2 (by omega))).mono fun D4 r4 => s_Fo_setEnd_53 kd ((times_ok kt r4.1 hn hb).mono fun D5 r5 => s_Fo_setEnd_62 kd ?_))
  have hs5 : Na D5 536 Sv := ((hs.far r3.2 (by omega)).far r4.2 (by omega)).far r5.2 (by omega)
  refine (add_ok (b := 536) kt zf_536 (by omega) r5.1 hs5 hb2).mono fun D6 r6 => s_Fo_setEnd_74 (retV ⟨⟨r6.1, ((r3.1.far r4.2 (by omega)).far r5.2 (by omega)).far r6.2 (by omega)⟩, ?_⟩)
  exact ((FR.fa r3.2 (by omega)).tr (FR.fa r4.2 (by omega))).tr ((FR.fa r5.2 (by omega)).tr (FR.fa r6.2 (by omega)))
theorem rescale_loop (f : JF n r d w pl) (h0 : JC D0 n r d w pl) {b : Nat} {aim : Int} (h1 : 0 < aim ∧ aim ≤ 200) (hb : ∀ j : Nat, j < n → j ≠ b → v j * aim < BB ^ 32) : ∀ (m j : Nat) (D : DD), j + m = n → FR 549 573 549 573 D0 D → (∀ i : Nat, i < n → (i < j ∧ i ≠ b → Na D (549 + 2 * i) (v i * aim)) ∧ (¬ (i < j ∧ i ≠ b) → Na D (549 + 2 * i) (v i))) →
    Sg g M_Fo_rescale (rV (fun D' => FR 549 573 549 573 D0 D' ∧ ∀ i : Nat, i < n → Na D' (549 + 2 * i) (if i = b then v i else v i * aim))) 11 [vR 530, vR 1, vI b, vI aim, vI j] [] D := by
  have hn := f.1
  intro m
  induction m with
  | zero =>
    intro j D hm F hI
    have e : D 1 0 = n := by rw [F 1 (by omega) (by omega)]; exact h0.1
    refine s_Fo_rescale_11 ⟨fun _ => retV ⟨F, fun i hi => ?_⟩, fun q => by omega⟩
    split
    · exact (hI i hi).2 (by omega)
    · exact (hI i hi).1 (by omega)
  | succ m ih =>
    intro j D hm F hI
    have e : D 1 0 = n := by rw [F 1 (by omega) (by omega)]; exact h0.1
    have hj : j < n := by omega
    refine s_Fo_rescale_11 ⟨fun q => by omega, fun _ => ⟨fun q => s_Fo_rescale_37 ⟨by unfold R32; omega, ih (j + 1) D (by omega) F fun i hi => ?_⟩, fun q => ⟨by omega, ?_⟩⟩⟩
    · have A := hI i hi
      exact ⟨fun z => A.1 (by omega), fun z => A.2 (by omega)⟩
    · rw [Int.toNat_natCast]
      have k1 := zk_left (j := j) (by omega)
      refine (times_ok k1 ((hI j hj).2 (by omega)) (by omega) (hb j hj (by omega))).mono fun D2 r2 => s_Fo_rescale_37 ⟨by unfold R32; omega, ih (j + 1) D2 (by omega) (F.tr (FR.fa r2.2 (by omega))) fun i hi => ?_⟩
      have A := hI i hi
      rcases (show i = j ∨ i ≠ j by omega) with y | y
      · subst y
        exact ⟨fun _ => r2.1, fun z => by omega⟩
      · exact ⟨fun z => (A.1 (by omega)).far r2.2 (by omega), fun z => (A.2 (by omega)).far r2.2 (by omega)⟩
theorem rescale_ok (f : JF n r d w pl) (h0 : JC D n r d w pl) {b : Nat} {aim : Int} (h1 : 0 < aim ∧ aim ≤ 200) (hc : Na D 532 c) (hc2 : c * aim < BB ^ 32) (hv : ∀ j : Nat, j < n → Na D (549 + 2 * j) (v j)) (hb : ∀ j : Nat, j < n → j ≠ b → v j * aim < BB ^ 32) :
    CV g M_Fo_rescale [vR 530, vR 1, vI b, vI aim] D (fun D' => FR 532 534 549 573 D D' ∧ Na D' 532 (c * aim) ∧ ∀ i : Nat, i < n → Na D' (549 + 2 * i) (if i = b then v i else v i * aim)) := by
  have hn := f.1
  refine CV.intro mc_Fo_rescale (Nat.le_of_ble_eq_true rfl) rfl (s_Fo_rescale_0 ((times_ok (a := 532) zf_532 hc (by omega) hc2).mono fun D2 r2 => s_Fo_rescale_8 ?_))
  have F : FR 532 534 549 573 D D2 := FR.fa r2.2 (by omega)
  refine zg_post (rescale_loop f (h0.fr F (by omega)) h1 hb n 0 D2 (by omega) FR.rf fun i hi => ⟨fun z => by omega, fun _ => (hv i hi).far r2.2 (by omega)⟩) ?_
  rintro _ _ _ ⟨q1, q2, q3, q4⟩
  exact ⟨q1, q2, F.tr (q3.mono fun c _ _ => by omega), r2.1.fr q3 (by omega), q4⟩
end FORE3
