/-! the Reckoner: order, lower, add, shareOut -/
def rcmp (x y : Rat) : Int := if x < y then -1 else if y < x then 1 else 0
theorem scmp_rat {p q p2 q2 : Int} (hq : 0 < q) (hq2 : 0 < q2) : scmp (p * q2) (p2 * q) = rcmp ((p : Rat) / (q : Rat)) ((p2 : Rat) / (q2 : Rat)) := by
  have k : ∀ p q p2 q2 : Int, 0 < q → 0 < q2 → ((p : Rat) / (q : Rat) < (p2 : Rat) / (q2 : Rat) ↔ p * q2 < p2 * q) := by
    intro p q p2 q2 hq hq2
    have h1 : (0 : Rat) < (q : Rat) := Rat.intCast_pos.mpr hq
    have h2 : (0 : Rat) < (q2 : Rat) := Rat.intCast_pos.mpr hq2
    rw [Rat.div_lt_iff h1, ← Rat.intCast_lt_intCast]
    rw [Rat.intCast_mul, Rat.intCast_mul, show (p2 : Rat) / (q2 : Rat) * (q : Rat) = ((p2 : Rat) * (q : Rat)) / (q2 : Rat) by grind, Rat.lt_div_iff h2]
  unfold scmp rcmp
  simp only [k p q p2 q2 hq hq2, k p2 q2 p q hq2 hq]
theorem scmp_rat' {x y : Rat} : scmp (x.num * y.den) (y.num * x.den) = rcmp x y := by
  have := scmp_rat (p := x.num) (q := x.den) (p2 := y.num) (q2 := y.den) rat_dpos rat_dpos
  rwa [← rat_nd, ← rat_nd] at this
/-- the sum of f below n -/
def su (f : Nat → Rat) : Nat → Rat
  | 0 => 0
  | n + 1 => su f n + f n
theorem su_congr {f h : Nat → Rat} : ∀ {n : Nat}, (∀ i, i < n → f i = h i) → su f n = su h n
  | 0, _ => rfl
  | n + 1, q => by
    show su f n + f n = su h n + h n
    rw [su_congr (fun i hi => q i (by omega)), q n (by omega)]
theorem pr_at {a : Nat} (h : zk a = (0, 5, 0)) : a = 9 ∨ a = 200 := by
  have := zk_all (P := fun a => !(zk a == (0, 5, 0)) || decide (a = 9 ∨ a = 200)) (by decide +kernel) h (by decide)
  rw [h] at this
  simpa using this
theorem zk_rate {a : Nat} (h : zk a = (0, 5, 0)) {i : Nat} (hi : i < 24) : zk (a + 11 + 5 * i) = (0, 4, 0) := by
  have := ze_0 (zs_Pr_rate h) hi
  rwa [show a + 3 + 8 + 5 * i = a + 11 + 5 * i by omega] at this
theorem zk_done {a : Nat} (h : zk a = (0, 5, 0)) {i : Nat} (hi : i < 12) : zk (a + 131 + 5 * i) = (0, 4, 0) := by
  have := ze_1 (zs_Pr_done h) hi
  rwa [show a + 4 + 127 + 5 * i = a + 131 + 5 * i by omega] at this
theorem zk_share {i : Nat} (hi : i < 24) : zk (409 + 2 * i) = (0, 3, 0) := by
  have := ze_2 (a := 408) (i := i) (by decide) hi
  rwa [show 408 + 1 + 2 * i = 409 + 2 * i by omega] at this
theorem den_pos {x : Rat} : (0 : Int) < x.den := rat_dpos
/-- a number that both divide is a multiple of their least common one -/
theorem lcm_dvd {C d L : Int} (hd : 0 < d) (h1 : C ∣ L) (h2 : d ∣ L) : C * (d / gcdi C d) ∣ L := by
  have g0 := gcdi_pos (x := C) hd
  have e1 : C * d ∣ L * gcdi C d := by
    have k1 : C * d ∣ L * C := by rw [Int.mul_comm L C]; exact Int.mul_dvd_mul_left C h2
    have k2 : C * d ∣ L * d := Int.mul_dvd_mul_right d h1
    have := Int.dvd_coe_gcd k1 k2
    rw [Int.gcd_mul_left, Int.natCast_mul] at this
    have k3 : C * d ∣ L.natAbs * gcdi C d := this
    rcases Int.natAbs_eq L with z | z
    · rw [z]; exact k3
    · rw [z, Int.neg_mul]; exact Int.dvd_neg.mpr k3
  have e2 : C * d = C * (d / gcdi C d) * gcdi C d := by rw [Int.mul_assoc, Int.ediv_mul_cancel gcdi_dr]
  rw [e2] at e1
  exact Int.dvd_of_mul_dvd_mul_right (by omega) e1
theorem share_rat {x : Rat} {C : Int} (h : (x.den : Int) ∣ C) : ((x.num * (C / x.den) : Int) : Rat) = x * (C : Rat) := by
  obtain ⟨k, rfl⟩ := h
  have h0 : (0 : Int) < x.den := rat_dpos
  rw [Int.mul_ediv_cancel_left _ (by omega)]
  have h1 : ((x.den : Int) : Rat) ≠ 0 := by
    intro z
    have := Rat.intCast_eq_zero_iff.mp z
    omega
  have h2 : x * ((x.den : Int) : Rat) = (x.num : Rat) := by
    have h3 := Rat.div_mul_cancel (a := (x.num : Rat)) h1
    rwa [← rat_nd] at h3
  rw [Rat.intCast_mul, Rat.intCast_mul, ← h2]
  grind
theorem num_le {x : Rat} {B : Int} (h : x ≤ (B : Rat)) : x.num ≤ B * x.den := by
  have := Rat.le_iff x (B : Rat) |>.mp h
  simpa using this
section RE1
variable {g : GG} {D : DD} {a b : Nat} {p q p2 q2 : Int} {x y : Rat}
theorem reOrder_ok (ka : zk a = (0, 4, 0)) (kb : zk b = (0, 4, 0)) (h : Fq D a x) (h2 : Fq D b y) (h3 : x.num * y.den < BB ^ 32) (h4 : y.num * x.den < BB ^ 32) : CI g M_Re_order [vR 391, vR a, vR b] D (fun v D' => v = rcmp x y ∧ FR 391 457 391 457 D D') := by
  have sa := fr_rk ka
  have sb := fr_rk kb
  refine CI.intro mc_Re_order (Nat.le_of_ble_eq_true rfl) rfl (s_Re_order_0 ka kb ((setProduct_ok rfl (zs_Fr_top ka) (zs_Fr_below kb) (by omega) (by omega) h.1 h2.2 h3).mono fun D2 r2 => ?_))
  have f2 : FR 391 457 391 457 D D2 := FR.fa r2.2 (by omega)
  have ha := h.fr f2 (by omega)
  have hb := h2.fr f2 (by omega)
  refine s_Re_order_15 ka kb ((setProduct_ok rfl (zs_Fr_top kb) (zs_Fr_below ka) (by omega) (by omega) hb.1 ha.2 h4).mono fun D3 r3 => ?_)
  refine s_Re_order_30 ((order_ok rfl rfl (r2.1.fa r3.2 rfl rfl (by decide)) r3.1).mono fun v D4 r => ?_)
  obtain ⟨rfl, rfl⟩ := r
  exact s_Re_order_41 (retI ⟨scmp_rat', f2.tr (FR.fa r3.2 (by omega))⟩)
theorem lower_ok (k : zk a = (0, 4, 0)) (h : Fp D a p q) (hq : 0 < q) (hp30 : p < BB ^ 30) (hq30 : q < BB ^ 30) : CV g M_Re_lower [vR 391, vR a] D (fun D' => Fq D' a ((p : Rat) / (q : Rat)) ∧ FR 391 457 a (a + 5) D D') := by
  have sa := fr_rk k
  have k1 := zs_Fr_top k
  have k3 := zs_Fr_below k
  have g0 := gcdi_pos (x := p) hq
  have hl := rat_low (p := p) hq rfl
  refine CV.intro mc_Re_lower (Nat.le_of_ble_eq_true rfl) rfl (s_Re_lower_0 k ((reCommon_ok k1 k3 h.1 h.2 (by omega) hp30 hq30).mono fun r D2 r2 => ?_))
  obtain ⟨hr, hg, f2⟩ := r2
  have kr : zk r = (0, 3, 0) := by rcases hr with rfl | rfl <;> rfl
  have hb : 391 ≤ r ∧ r + 1 < 396 := by omega
  have h2 := h.fr f2 (by omega)
  refine s_Re_lower_12 k kr ((isZero_ok kr hg).mono fun v D3 r3 => ?_)
  obtain ⟨rfl, rfl⟩ := r3
  rw [if_neg (by omega)]
  refine s_Re_lower_17 k kr ⟨fun z => by omega, fun _ => (isOne_ok kr hg).mono fun v D4 r4 => ?_⟩
  obtain ⟨rfl, rfl⟩ := r4
  have F2 : FR 391 457 a (a + 5) D D4 := f2.mono fun c _ _ => by omega
  refine s_Re_lower_24 k kr ⟨fun z => ?_, fun z => retV ⟨?_, F2⟩⟩
  · refine (divideBy_ok (a := a + 1) (b := r) (c := 396) (d := 398) k1 kr rfl rfl (by omega) (by omega) (by omega) (by omega) (by omega) (by decide) h2.1 hg g0 hp30).mono fun D5 r5 => ?_
    have f5 : FR 391 457 a (a + 5) D4 D5 := FR.f3 r5.2.2 (by omega) (by omega) (by omega)
    have hg5 := hg.f3 r5.2.2 k1 kr rfl rfl (by omega) (by omega) (by omega)
    have hb5 := h2.2.f3 r5.2.2 k1 k3 rfl rfl (by omega) (by omega) (by omega)
    refine s_Re_lower_44 k kr ((copyFrom_ok k1 rfl r5.2.1).mono fun D6 r6 => s_Re_lower_55 k kr ?_)
    have hg6 := hg5.fa r6.2 k1 kr (by omega)
    have hb6 := hb5.fa r6.2 k1 k3 (by omega)
    refine (divideBy_ok (a := a + 3) (b := r) (c := 396) (d := 398) k3 kr rfl rfl (by omega) (by omega) (by omega) (by omega) (by omega) (by decide) hb6 hg6 g0 hq30).mono fun D7 r7 => ?_
    have ht7 := r6.1.f3 r7.2.2 k3 k1 rfl rfl (by omega) (by omega) (by omega)
    refine s_Re_lower_71 k ((copyFrom_ok k3 rfl r7.2.1).mono fun D8 r8 => s_Re_lower_82 (retV ?_))
    have ht8 := ht7.fa r8.2 k3 k1 (by omega)
    refine ⟨⟨by rw [hl.1]; exact ht8, by rw [hl.2]; exact r8.1⟩, (F2.tr f5).tr ((FR.fa r6.2 (by omega)).tr ((FR.f3 r7.2.2 (by omega) (by omega) (by omega)).tr (FR.fa r8.2 (by omega))))⟩
  · have g1 : gcdi p q = 1 := by
      rcases Decidable.em (gcdi p q = 1) with y | y
      · exact y
      · rw [if_neg y] at z; omega
    rw [g1, Int.ediv_one, Int.ediv_one] at hl
    exact ⟨by rw [hl.1]; exact h2.1, by rw [hl.2]; exact h2.2⟩
/-- a small fraction added, not brought to least terms -/
theorem reAdd_ok (k : zk a = (0, 4, 0)) (h : Fp D a p q) {u v : Int} (hu : 0 ≤ u) (hv : 1 ≤ v) (hq : 0 < q) (h1 : q * u < BB ^ 32) (h2 : p * v < BB ^ 32) (h3 : p * v + q * u < BB ^ 32) (h4 : q * v < BB ^ 32) : CV g M_Re_add [vR 391, vR a, vL u, vI v] D (fun D' => Fp D' a (p * v + q * u) (q * v) ∧ FR 391 457 a (a + 5) D D') := by
  have sa := fr_rk k
  have k1 := zs_Fr_top k
  have k3 := zs_Fr_below k
  refine CV.intro mc_Re_add (Nat.le_of_ble_eq_true rfl) rfl (s_Re_add_0 k ⟨fun z => by omega, fun _ => ⟨fun _ => (setSmall_ok (a := 402) rfl hu).mono fun D2 r2 => ?_, fun z => by omega⟩⟩)
  have hh2 := h.fr (FR.fa (lo := 402) (hi := 404) (lo2 := 402) (hi2 := 404) r2.2 (by omega)) (by omega)
  refine s_Re_add_21 k ((setProduct_ok (a := 400) (b := a + 3) (c := 402) rfl k3 rfl (by omega) (by decide) hh2.2 r2.1 h1).mono fun D3 r3 => ?_)
  have hh3 := hh2.fr (FR.fa (lo := 400) (hi := 402) (lo2 := 400) (hi2 := 402) r3.2 (by omega)) (by omega)
  refine s_Re_add_36 k ((times_ok k1 hh3.1 (by omega) h2).mono fun D4 r4 => ?_)
  have hp4 := r3.1.fa r4.2 k1 rfl (by omega)
  refine s_Re_add_45 k ((add_ok k1 rfl (by omega) r4.1 hp4 h3).mono fun D5 r5 => ?_)
  have hb5 := (hh3.2.fa r4.2 k1 k3 (by omega)).fa r5.2 k1 k3 (by omega)
  refine s_Re_add_56 k ((times_ok k3 hb5 (by omega) h4).mono fun D6 r6 => s_Re_add_65 (retV ⟨⟨r5.1.fa r6.2 k3 k1 (by omega), r6.1⟩, ?_⟩))
  exact (((FR.fa r2.2 (by omega)).tr (FR.fa r3.2 (by omega))).tr ((FR.fa r4.2 (by omega)).tr (FR.fa r5.2 (by omega)))).tr (FR.fa r6.2 (by omega))
/-- a profile's speeds -/
def Pf (D : DD) (a n : Nat) (r : Nat → Rat) : Prop := D a 1 = n ∧ n ≤ 24 ∧ ∀ i, i < n → Fq D (a + 11 + 5 * i) (r i)
theorem Pf.rk {D D' : DD} {n : Nat} {r : Nat → Rat} (h : Pf D a n r) (k : zk a = (0, 5, 0)) (f : FR 391 457 391 457 D D') : Pf D' a n r := by
  have := pr_at k
  refine ⟨by rw [f a (by omega) (by omega)]; exact h.1, h.2.1, fun i hi => (h.2.2 i hi).fr f ?_⟩
  have := h.2.1
  omega
/-- what sharing out leaves -/
def Sh (D : DD) (n : Nat) (r : Nat → Rat) (C : Int) : Prop := Na D 406 C ∧ 0 < C ∧ (∀ i, i < n → ((r i).den : Int) ∣ C) ∧ ∀ i, i < n → Na D (409 + 2 * i) ((r i).num * (C / (r i).den))
theorem share_loop2 (k : zk a = (0, 5, 0)) {n : Nat} {r : Nat → Rat} {C : Int} (hp : Pf D a n r) (hr : ∀ i, i < n → r i ≤ 12000) (hC : 0 < C) (hC30 : C < 2 ^ 140) (hd : ∀ i, i < n → ((r i).den : Int) ∣ C) : ∀ (m i : Nat) (D1 : DD) (z3 z4 : VV), i + m = n → FR 391 457 391 457 D D1 → Na D1 406 C → (∀ j, j < i → Na D1 (409 + 2 * j) ((r j).num * (C / (r j).den))) →
    Sg g M_Re_shareOut (rV (fun D' => Sh D' n r C ∧ FR 391 457 391 457 D D')) 98 [vR 391, vR a, vI i, z3, z4] [] D1 := by
  have pa := pr_at k
  have hn := hp.2.1
  intro m
  induction m with
  | zero =>
    intro i D1 z3 z4 hm hf hc hs
    have hp1 := hp.rk k hf
    have e := hp1.1
    obtain rfl : i = n := by omega
    exact s_Re_shareOut_98 k ⟨fun _ => retV ⟨⟨hc, hC, hd, hs⟩, hf⟩, fun z => by omega⟩
  | succ m ih =>
    intro i D1 z3 z4 hm hf hc hs
    have hp1 := hp.rk k hf
    have e := hp1.1
    have hi : i < n := by omega
    have kf := zk_rate k (i := i) (by omega)
    have dpos := den_pos (x := r i)
    have hle := Int.le_of_dvd hC (hd i hi)
    refine s_Re_shareOut_98 k ⟨fun z => by omega, fun _ => (copyFrom_ok rfl rfl hc).mono fun D2 r2 => ?_⟩
    have f2 : FR 391 457 391 457 D1 D2 := FR.fa r2.2 (by omega)
    have hx2 := (hp1.rk k f2).2.2 i hi
    refine s_Re_shareOut_117 k ⟨by omega, ?_⟩
    rw [Int.toNat_natCast]
    refine (divideBy_ok (a := 402) (b := a + 11 + 5 * i + 3) (c := 396) (d := 398) rfl (zs_Fr_below kf) rfl rfl (by omega) (by decide) (by decide) (by omega) (by omega) (by decide) r2.1 hx2.2 dpos (Int.lt_trans hC30 (by decide))).mono fun D3 r3 => ?_
    have f3 : FR 391 457 391 457 D2 D3 := FR.f3 r3.2.2 (by omega) (by omega) (by omega)
    have hx3 := hx2.fr f3 (by omega)
    have nn := hx3.1.nn
    refine s_Re_shareOut_141 k ⟨by omega, ?_⟩
    rw [Int.toNat_natCast]
    have kn := zk_share (i := i) (by omega)
    have q0 := Int.ediv_nonneg (a := C) (b := (r i).den) (by omega) (by omega)
    have hv : (r i).num * (C / (r i).den) < BB ^ 32 := by
      have := num_le (hr i hi)
      have e1 : (r i).num * (C / (r i).den) ≤ 12000 * (r i).den * (C / (r i).den) := Int.mul_le_mul_of_nonneg_right this q0
      rw [Int.mul_assoc, Int.mul_ediv_cancel' (hd i hi)] at e1
      have e2 : 12000 * (2 : Int) ^ 140 < BB ^ 32 := by decide
      omega
    refine (setProduct_ok (a := 409 + 2 * i) (b := a + 11 + 5 * i + 1) (c := 396) kn (zs_Fr_top kf) rfl (by omega) (by omega) hx3.1 r3.2.1 hv).mono fun D4 r4 => ?_
    refine s_Re_shareOut_163 k ⟨by unfold R32; omega, ih (i + 1) D4 _ _ (by omega) ?_ ?_ ?_⟩
    · exact (hf.tr f2).tr (f3.tr (FR.fa r4.2 (by omega)))
    · exact ((hc.fr (FR.fa (lo := 402) (hi := 404) (lo2 := 402) (hi2 := 404) r2.2 (by omega)) (by omega)).f3 r3.2.2 rfl rfl rfl rfl (by decide) (by decide) (by decide)).fa r4.2 kn rfl (by omega)
    · intro j hj
      rcases (show j = i ∨ j < i by omega) with z | z
      · rw [z]; exact r4.1
      · have kj := zk_share (i := j) (by omega)
        exact (((hs j z).fa r2.2 rfl kj (by omega)).f3 r3.2.2 rfl kj rfl rfl (by omega) (by omega) (by omega)).fa r4.2 kn kj (by omega)
theorem share_loop1 (k : zk a = (0, 5, 0)) {n : Nat} {r : Nat → Rat} {L : Int} (hp : Pf D a n r) (hL : 0 < L) (hL2 : L < 2 ^ 140) (hd : ∀ i, i < n → ((r i).den : Int) ∣ L) {Q : Option VV → EE → DD → Prop}
    (hQ : ∀ (D1 : DD) (C : Int), FR 391 457 391 457 D D1 → Na D1 406 C → 0 < C → C ∣ L → (∀ j, j < n → ((r j).den : Int) ∣ C) → Sg g M_Re_shareOut Q 98 [vR 391, vR a, vI 0, vU, vU] [] D1) : ∀ (m i : Nat) (D1 : DD) (C : Int) (z3 z4 : VV), i + m = n → FR 391 457 391 457 D D1 → Na D1 406 C → 0 < C → C ∣ L → (∀ j, j < i → ((r j).den : Int) ∣ C) →
    Sg g M_Re_shareOut Q 10 [vR 391, vR a, vI i, z3, z4] [] D1 := by
  have pa := pr_at k
  have hn := hp.2.1
  intro m
  induction m with
  | zero =>
    intro i D1 C z3 z4 hm hf hc hC hCL hs
    have hp1 := hp.rk k hf
    have e := hp1.1
    obtain rfl : i = n := by omega
    exact s_Re_shareOut_10 k ⟨fun _ => hQ D1 C hf hc hC hCL hs, fun z => by omega⟩
  | succ m ih =>
    intro i D1 C z3 z4 hm hf hc hC hCL hs
    have hp1 := hp.rk k hf
    have e := hp1.1
    have hi : i < n := by omega
    have kf := zk_rate k (i := i) (by omega)
    have dpos := den_pos (x := r i)
    have hdle := Int.le_of_dvd hL (hd i hi)
    have hCle := Int.le_of_dvd hL hCL
    have hx1 := hp1.2.2 i hi
    have b30 : (2 : Int) ^ 140 < BB ^ 30 := by decide
    refine s_Re_shareOut_10 k ⟨fun z => by omega, fun _ => ⟨by omega, ?_⟩⟩
    rw [Int.toNat_natCast]
    refine (reCommon_ok rfl (zs_Fr_below kf) hc hx1.2 (by omega) (by omega) (by omega)).mono fun rr D2 r2 => ?_
    obtain ⟨hr, hg, f2⟩ := r2
    have kr : zk rr = (0, 3, 0) := by rcases hr with rfl | rfl <;> rfl
    have F2 : FR 391 457 391 457 D1 D2 := f2.mono fun c _ _ => by omega
    have hx2 := (hp1.rk k F2).2.2 i hi
    have hc2 := hc.fr f2 (by omega)
    refine s_Re_shareOut_37 k (zs_Fr_below kf) kr ((copyFrom_ok rfl (zs_Fr_below kf) hx2.2).mono fun D3 r3 => ?_)
    have hg3 := hg.fa r3.2 rfl kr (by omega)
    refine s_Re_shareOut_47 k kr ((divideBy_ok (a := 402) (b := rr) (c := 396) (d := 398) rfl kr rfl rfl (by omega) (by decide) (by decide) (by omega) (by omega) (by decide) r3.1 hg3 (gcdi_pos dpos) (by omega)).mono fun D4 r4 => ?_)
    have hc4 := (hc2.fa r3.2 rfl rfl (by decide)).f3 r4.2.2 rfl rfl rfl rfl (by decide) (by decide) (by decide)
    have hL4 := lcm_dvd dpos hCL (hd i hi)
    have hpos : 0 < C * ((r i).den / gcdi C (r i).den) := by
      apply Int.mul_pos hC
      have : 0 < gcdi C (r i).den := gcdi_pos dpos
      have h1 := Int.le_ediv_of_mul_le this (a := 1) (b := (r i).den) (by have := gcdi_le (x := C) dpos; omega)
      omega
    have hle4 := Int.le_of_dvd hL hL4
    have b32 : (2 : Int) ^ 140 < BB ^ 32 := by decide
    refine s_Re_shareOut_64 k ((setProduct_ok (a := 400) (b := 406) (c := 396) rfl rfl rfl (by decide) (by decide) hc4 r4.2.1 (by omega)).mono fun D5 r5 => ?_)
    refine s_Re_shareOut_79 k ((copyFrom_ok rfl rfl r5.1).mono fun D6 r6 => s_Re_shareOut_90 k ⟨by unfold R32; omega, ih (i + 1) D6 _ _ _ (by omega) ?_ r6.1 hpos hL4 ?_⟩)
    · exact (hf.tr F2).tr (((FR.fa r3.2 (by omega)).tr (FR.f3 r4.2.2 (by omega) (by omega) (by omega))).tr ((FR.fa r5.2 (by omega)).tr (FR.fa r6.2 (by omega))))
    · intro j hj
      rcases (show j = i ∨ j < i by omega) with z | z
      · rw [z]
        have e1 : C * ((r i).den / gcdi C (r i).den) = (r i).den * (C / gcdi C (r i).den) := by
          rw [← Int.mul_ediv_assoc _ gcdi_dr, ← Int.mul_ediv_assoc _ gcdi_dl, Int.mul_comm]
        rw [e1]
        exact Int.dvd_mul_right _ _
      · exact Int.dvd_trans (hs j z) (Int.dvd_mul_right _ _)
theorem shareOut_ok (k : zk a = (0, 5, 0)) {n : Nat} {r : Nat → Rat} {L : Int} (hp : Pf D a n r) (hr : ∀ i, i < n → r i ≤ 12000) (hL : 0 < L) (hL2 : L < 2 ^ 140) (hd : ∀ i, i < n → ((r i).den : Int) ∣ L) :
    CV g M_Re_shareOut [vR 391, vR a] D (fun D' => (∃ C, C ≤ L ∧ Sh D' n r C) ∧ FR 391 457 391 457 D D') := by
  refine CV.intro mc_Re_shareOut (Nat.le_of_ble_eq_true rfl) rfl (s_Re_shareOut_0 k ((setSmall_ok (a := 406) rfl (x := 1) (by decide)).mono fun D2 r2 => s_Re_shareOut_8 k ?_))
  have f2 : FR 391 457 391 457 D D2 := FR.fa r2.2 (by omega)
  refine share_loop1 k (hp.rk k f2) hL hL2 hd (fun D3 C f3 hC0 hC hCL hdC => ?_) n 0 D2 1 _ _ (by omega) FR.rf r2.1 (by omega) (Int.one_dvd _) (fun j hj => by omega)
  have hCle := Int.le_of_dvd hL hCL
  refine zg_post (share_loop2 k ((hp.rk k f2).rk k f3) hr hC (by omega) hdC n 0 D3 _ _ (by omega) FR.rf hC0 (fun j hj => by omega)) ?_
  intro r E' D' h
  obtain ⟨rfl, rfl, h1, h2⟩ := h
  exact ⟨rfl, rfl, ⟨C, hCle, h1⟩, (f2.tr f3).tr h2⟩
end RE1
