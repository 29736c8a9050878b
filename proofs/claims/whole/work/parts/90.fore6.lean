/-! Foresight: workOff, put together -/
section FORE6
variable {g : GG} {D : DD} {n a : Nat} {r d w : Nat → Int} {pl : Nat → Nat} {R R' : Nat → Rat} {c : Int} {v : Nat → Int}
theorem foWorkOff_ok (k : zk a = (0, 5, 0)) (f : JF n r d w pl) (h0 : JC D n r d w pl) (hv : FS D n R c v) (hR : ∀ j, j < n → 0 ≤ R j ∧ R j ≤ 1000) {now kk : Nat} {aim dv : Int} {s : Rat} (hs : 0 < s) (hk : 1 ≤ kk ∧ (kk : Int) ≤ aim ∧ aim ≤ 200) (hnow : now + kk ≤ 200)
    (dead : ∀ j, j < n → d j ≤ (now : Int) → R j = 0) (hdv : (dv : Rat) = s * ((c * aim : Int) : Rat)) (hdb : 0 < dv ∧ dv ≤ 12000 * c) (hd0 : Na D 534 dv) (hE : D 530 3 = now + aim)
    (hel : ∀ q, q < n → r (pl q) ≤ (now : Int) → R' (pl q) = max (cum (fun j => r j ≤ (now : Int)) R pl (q + 1) - (kk : Rat) * s) 0 - max (cum (fun j => r j ≤ (now : Int)) R pl q - (kk : Rat) * s) 0) (hno : ∀ j, j < n → ¬ r j ≤ (now : Int) → R' j = R j)
    (hcb : (kk : Int) < aim → c * aim < 2 ^ 90) (hfull : (kk : Rat) * s ≤ cum (fun j => r j ≤ (now : Int)) R pl n) (hex : (kk : Int) = aim → ∃ m, m ≤ n ∧ cum (fun j => r j ≤ (now : Int)) R pl m = (kk : Rat) * s) :
    CV g M_Fo_workOff [vR 530, vR 1, vR a, vI now, vI ((now + kk : Nat) : Int)] D (fun D' => WX n r pl a now kk s R R' c aim D D') := by
  have pa := pr_at k
  have bb := BB130
  have hn := f.1
  have c90 : 0 < c ∧ c < 2 ^ 90 := ⟨hv.2.1, hv.2.2.1⟩
  have m1 := pow90 (k := 12000 * 200) c90 (by omega)
  have m2 : dv * (kk : Int) ≤ 12000 * c * 200 := Int.mul_le_mul hdb.2 (by omega) (by omega) (Int.mul_nonneg (by omega) (by omega))
  have m3 : 12000 * c * 200 = 12000 * 200 * c := by ac_rfl
  refine CV.mono (P := fun D' => ∃ D4, (∀ c, (c < 536 ∨ 542 ≤ c) → D4 c = D c) ∧ WX n r pl a now kk s R R' c aim D4 D') (CV.intro mc_Fo_workOff (Nat.le_of_ble_eq_true rfl) rfl (s_Fo_workOff_0 k ⟨by rw [hE]; unfold R32; omega, (copyFrom_ok (a := 540) (b := 534) zf_540 zf_534 hd0).mono fun D1 r1 => s_Fo_workOff_25 k ⟨by unfold R32; omega, ?_⟩⟩)) ?_
  · rw [hE, show ((now + kk : Nat) : Int) - (now : Int) = (kk : Int) by omega, show (now : Int) + aim - (now : Int) = aim by omega]
    refine (times_ok (a := 540) zf_540 r1.1 (by omega) (by omega)).mono fun D2 r2 => s_Fo_workOff_36 k ((setSmall_ok (a := 536) zf_536 (x := 0) (by omega)).mono fun D3 r3 => s_Fo_workOff_44 k ((setSmall_ok (a := 538) zf_538 (x := 0) (by omega)).mono fun D4 r4 => s_Fo_workOff_52 k ?_))
    have F : ∀ c, (c < 536 ∨ 542 ≤ c) → D4 c = D c := fun c hc => by rw [r4.2 c (by omega) (by omega), r3.2 c (by omega) (by omega), r2.2 c (by omega) (by omega), r1.2 c (by omega) (by omega)]
    have fr : FR 536 542 536 542 D D4 := fun c c1 c2 => F c (by omega)
    have := workOff_loop2 (g := g) (D0 := D4) (R' := R') k f (h0.fr fr (by omega)) (hv.fr hn fr (by omega)) hR hs hk hnow dead hdv hdb (hd0.fr fr (by omega)) hel hno hcb hfull hex n 0 0 0 D4 vU (by omega) ⟨fun _ _ _ _ _ => rfl, ⟨r3.1.far r4.2 (by omega), by rw [cum_0, Rat.zero_mul]; rfl⟩, by rw [Int.natCast_zero, Int.mul_zero]; exact r4.1, (r2.1.far r3.2 (by omega)).far r4.2 (by omega), fun q hq => ?_, fun q _ q0 => by omega, fun q _ _ c _ _ => rfl, fun i' hi' => by omega, fun u _ => rfl, by omega, Or.inl ?_, ?_⟩
    · refine zg_post this ?_
      rintro _ _ _ ⟨q1, q2, q3⟩
      exact ⟨q1, q2, D4, F, q3⟩
    · rw [if_neg (by omega)]
      exact ((hv.2.2.2 (pl q) (f.2.2.2.1 q hq)).1).fr fr (by omega)
    · rw [cum_0]; exact Rat.mul_nonneg Rat.le_refl (Rat.le_of_lt hs)
    · rw [cum_0]; exact Rat.mul_nonneg (by exact Rat.natCast_nonneg) (Rat.le_of_lt hs)
  · rintro D' ⟨D4, F, w1, w2, w3, w4, w5, w6⟩
    refine ⟨fun c' c1 c2 c3 c4 => (w1 c' c1 c2 c3 c4).trans (F c' (by omega)), w2, w3, fun q hq z c' c1 c2 => ?_, w5, fun u hu => ?_⟩
    · have h12 := f.2.2.2.1 q hq
      rw [w4 q hq z c' c1 c2, F c' (by omega)]
    · rw [w6 u hu, F (a + 5) (by omega)]
/-- nothing to do -/
theorem foWorkOff_0 (k : zk a = (0, 5, 0)) (f : JF n r d w pl) (h0 : JC D n r d w pl) (hv : FS D n R c v) {now kk : Nat} (hnow : now + kk ≤ 200) (hd0 : Na D 534 0) (hE : D 530 3 = now) (hR' : ∀ j, j < n → R' j = R j) (hR0 : ∀ j, j < n → r j ≤ (now : Int) → R j = 0) :
    CV g M_Fo_workOff [vR 530, vR 1, vR a, vI now, vI ((now + kk : Nat) : Int)] D (fun D' => WX n r pl a now kk 0 R R' c 1 D D') := by
  have pa := pr_at k
  have bb := BB130
  have hn := f.1
  refine CV.intro mc_Fo_workOff (Nat.le_of_ble_eq_true rfl) rfl (s_Fo_workOff_0 k ⟨by rw [hE]; unfold R32; omega, (copyFrom_ok (a := 540) (b := 534) zf_540 zf_534 hd0).mono fun D1 r1 => s_Fo_workOff_25 k ⟨by unfold R32; omega, ?_⟩⟩)
  rw [hE, show ((now + kk : Nat) : Int) - (now : Int) = (kk : Int) by omega, show (now : Int) - (now : Int) = 0 by omega]
  refine (times_ok (a := 540) zf_540 r1.1 (by omega) (by omega)).mono fun D2 r2 => s_Fo_workOff_36 k ((setSmall_ok (a := 536) zf_536 (x := 0) (by omega)).mono fun D3 r3 => s_Fo_workOff_44 k ((setSmall_ok (a := 538) zf_538 (x := 0) (by omega)).mono fun D4 r4 => s_Fo_workOff_52 k ?_))
  have F : ∀ c, (c < 536 ∨ 542 ≤ c) → D4 c = D c := fun c hc => by rw [r4.2 c (by omega) (by omega), r3.2 c (by omega) (by omega), r2.2 c (by omega) (by omega), r1.2 c (by omega) (by omega)]
  have fr : FR 536 542 536 542 D D4 := fun c c1 c2 => F c (by omega)
  have done : WX n r pl a now kk 0 R R' c 1 D D4 := by
    refine ⟨fun c' c1 c2 c3 c4 => F c' (by omega), ⟨c, v, ?_, Or.inl rfl⟩, fun q hq y r0 _ => ?_, fun q hq _ c' c1 c2 => ?_, fun z => absurd z Rat.lt_irrefl, fun u _ => by rw [F (a + 5) (by omega)]⟩
    · have := hv.fr hn fr (by omega)
      exact ⟨this.1, this.2.1, this.2.2.1, fun j hj => ⟨(this.2.2.2 j hj).1, by rw [hR' j hj]; exact (this.2.2.2 j hj).2⟩⟩
    · rw [hR0 _ (f.2.2.2.1 q hq) y] at r0; exact absurd r0 Rat.lt_irrefl
    · have h12 := f.2.2.2.1 q hq
      rw [F c' (by omega)]
  have e261 : ∀ z8 z9, Sg g M_Fo_workOff (rV (fun D' => WX n r pl a now kk 0 R R' c 1 D D')) 261 [vR 530, vR 1, vR a, vI now, vI ((now + kk : Nat) : Int), vI 0, vI (-1), vI now, z8, z9] [] D4 := fun z8 z9 => s_Fo_workOff_261 ⟨fun _ => retV done, fun q => absurd rfl q⟩
  have n36 : Na D4 536 0 := r3.1.far r4.2 (by omega)
  have n40 : Na D4 540 0 := by
    have := (r2.1.far r3.2 (by omega)).far r4.2 (by omega)
    rwa [Int.zero_mul] at this
  refine s_Fo_workOff_55 k ⟨fun _ => e261 _ _, fun _ => (order_ok (a := 536) (b := 540) zf_536 zf_540 n36 n40).mono fun y D5 r5 => ?_⟩
  obtain ⟨rfl, rfl⟩ := r5
  exact s_Fo_workOff_75 k ⟨fun _ => e261 _ _, fun q => absurd (show (0 : Int) ≤ scmp 0 0 by decide) q⟩
end FORE6
