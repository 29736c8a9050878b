/-! the Reckoner: reckonCost, orderOfWork -/
/-- the sum of f below n, whole numbers -/
def si (f : Nat → Int) : Nat → Int
  | 0 => 0
  | n + 1 => si f n + f n
theorem si_rat {f : Nat → Int} : ∀ {n : Nat}, ((si f n : Int) : Rat) = su (fun i => (f i : Rat)) n
  | 0 => rfl
  | n + 1 => by
    show ((si f n + f n : Int) : Rat) = su (fun i => (f i : Rat)) n + (f n : Rat)
    rw [Rat.intCast_add, si_rat]
theorem si_le {f : Nat → Int} {B : Int} : ∀ {n : Nat}, (∀ i, i < n → f i ≤ B) → si f n ≤ n * B
  | 0, _ => by show (0 : Int) ≤ _; omega
  | n + 1, h => by
    show si f n + f n ≤ _
    have h1 := si_le (n := n) (fun i hi => h i (by omega))
    have h2 := h n (by omega)
    have : ((n + 1 : Nat) : Int) * B = n * B + B := by rw [Int.natCast_add, Int.add_mul]; omega
    omega
theorem si_nn {f : Nat → Int} : ∀ {n : Nat}, (∀ i, i < n → 0 ≤ f i) → 0 ≤ si f n
  | 0, _ => by show (0 : Int) ≤ 0; omega
  | n + 1, h => by
    show 0 ≤ si f n + f n
    have h1 := si_nn (n := n) (fun i hi => h i (by omega))
    have h2 := h n (by omega)
    omega
theorem si_congr {f h : Nat → Int} : ∀ {n : Nat}, (∀ i, i < n → f i = h i) → si f n = si h n
  | 0, _ => rfl
  | n + 1, q => by
    show si f n + f n = si h n + h n
    rw [si_congr (fun i hi => q i (by omega)), q n (by omega)]
theorem su_mul {f : Nat → Rat} {c : Rat} : ∀ {n : Nat}, su (fun i => f i * c) n = su f n * c
  | 0 => by show (0 : Rat) = 0 * c; rw [Rat.zero_mul]
  | n + 1 => by
    show su (fun i => f i * c) n + f n * c = (su f n + f n) * c
    rw [su_mul, Rat.add_mul]
theorem Sh.rk2 {D D' : DD} {n : Nat} {r : Nat → Rat} {C : Int} (h : Sh D n r C) (hn : n ≤ 24) {lo hi : Nat} (f : FR 400 406 lo hi D D') (q : hi ≤ 391 ∨ 457 ≤ lo ∨ (400 ≤ lo ∧ hi ≤ 406)) : Sh D' n r C :=
  ⟨h.1.fr f (by omega), h.2.1, h.2.2.1, fun i hi => (h.2.2.2 i hi).fr f (by omega)⟩
theorem mul3 {x B : Int} (h0 : 0 ≤ x) (h : x ≤ B) : x * x ≤ B * B ∧ x * x * x ≤ B * B * B ∧ 0 ≤ x * x ∧ 0 ≤ x * x * x := by
  have h1 : x * x ≤ B * B := Int.mul_le_mul h h h0 (by omega)
  have h2 : 0 ≤ x * x := Int.mul_nonneg h0 h0
  exact ⟨h1, Int.mul_le_mul h1 h h0 (by omega), h2, Int.mul_nonneg h2 h0⟩
theorem low_le {p q : Int} (hp : 0 ≤ p) (hq : 0 < q) : ((p : Rat) / (q : Rat)).num ≤ p ∧ (((((p : Rat) / (q : Rat)).den : Nat) : Int) ≤ q) := by
  have hl := rat_low (p := p) hq rfl
  have g0 := gcdi_pos (x := p) hq
  rw [hl.1, hl.2]
  exact ⟨Int.ediv_le_self _ hp, Int.ediv_le_self _ (by omega)⟩
section RE2
variable {g : GG} {D : DD} {a : Nat}
def shr (r : Nat → Rat) (C : Int) (j : Nat) : Int := (r j).num * (C / (r j).den)
theorem shr_bd {n : Nat} {r : Nat → Rat} {C : Int} (h : Sh D n r C) (hr : ∀ i, i < n → r i ≤ 12000) (hC : C < 2 ^ 140) {j : Nat} (hj : j < n) : 0 ≤ shr r C j ∧ shr r C j ≤ 2 ^ 154 := by
  have e0 := (h.2.2.2 j hj).nn
  have := num_le (hr j hj)
  have dpos := den_pos (x := r j)
  have hC0 := h.2.1
  have q0 := Int.ediv_nonneg (a := C) (b := (r j).den) (by omega) (by omega)
  have e1 : (r j).num * (C / (r j).den) ≤ 12000 * (r j).den * (C / (r j).den) := Int.mul_le_mul_of_nonneg_right this q0
  rw [Int.mul_assoc, Int.mul_ediv_cancel' (h.2.2.1 j hj)] at e1
  unfold shr
  have e2 : 12000 * (2 : Int) ^ 140 < 2 ^ 154 := by decide
  omega
theorem shr_rat {n : Nat} {r : Nat → Rat} {C : Int} (h : Sh D n r C) {j : Nat} (hj : j < n) : ((shr r C j : Int) : Rat) = r j * (C : Rat) := share_rat (h.2.2.1 j hj)
theorem cost_rat {n : Nat} {r : Nat → Rat} {C : Int} {len : Nat → Int} (h : Sh D n r C) : (((si (fun j => shr r C j * shr r C j * shr r C j * len j) n : Int) : Rat) / ((C * C * C : Int) : Rat)) = su (fun j => r j * r j * r j * (len j : Rat)) n := by
  have hC : (C : Rat) ≠ 0 := by
    intro z
    have := Rat.intCast_eq_zero_iff.mp z
    have := h.2.1
    omega
  rw [si_rat]
  have e : su (fun j => ((shr r C j * shr r C j * shr r C j * len j : Int) : Rat)) n = su (fun j => r j * r j * r j * (len j : Rat) * ((C : Rat) * C * C)) n := su_congr fun j hj => by
    rw [Rat.intCast_mul, Rat.intCast_mul, Rat.intCast_mul, shr_rat h hj]
    grind
  rw [e, su_mul, Rat.intCast_mul, Rat.intCast_mul, Rat.mul_div_cancel]
  intro z
  rcases Rat.mul_eq_zero.mp z with z | z
  · rcases Rat.mul_eq_zero.mp z with z | z
    · exact hC z
    · exact hC z
  · exact hC z
theorem cost_loop (k : zk a = (0, 5, 0)) {n : Nat} {r : Nat → Rat} {C : Int} {len : Nat → Int} (hp : Pf D a n r) (hl : ∀ i : Nat, i < n → D (a + 2) i - D (a + 1) i = len i ∧ 0 ≤ len i ∧ len i ≤ 200) (hr : ∀ i, i < n → r i ≤ 12000) (hC : C < 2 ^ 140) : ∀ (m i : Nat) (D1 : DD), i + m = n → FR 391 457 391 457 D D1 → Sh D1 n r C → Na D1 404 (si (fun j => shr r C j * shr r C j * shr r C j * len j) i) →
    Sg g M_Re_reckonCost (rV (fun D' => (∃ x, x = su (fun j => r j * r j * r j * (len j : Rat)) n ∧ Fq D' (a + 6) x ∧ x.num < 2 ^ 475 ∧ x.den < 2 ^ 420) ∧ FR 391 457 (a + 6) (a + 11) D D')) 15 [vR 391, vR a, vI i] [] D1 := by
  have pa := pr_at k
  have hn := hp.2.1
  have kc := zs_Pr_cost k
  have sbd : ∀ (D1 : DD) (i : Nat), Sh D1 n r C → i < n → 0 ≤ shr r C i * shr r C i * shr r C i * len i ∧ shr r C i * shr r C i * shr r C i * len i ≤ 2 ^ 470 := by
    intro D1 i hs hi
    have b := shr_bd hs hr hC hi
    have m3 := mul3 b.1 b.2
    have l := hl i hi
    refine ⟨Int.mul_nonneg m3.2.2.2 l.2.1, ?_⟩
    have e1 : shr r C i * shr r C i * shr r C i * len i ≤ 2 ^ 154 * 2 ^ 154 * 2 ^ 154 * 200 := Int.mul_le_mul m3.2.1 l.2.2 l.2.1 (by decide)
    have e2 : (2 : Int) ^ 154 * 2 ^ 154 * 2 ^ 154 * 200 < 2 ^ 470 := by decide
    omega
  have ssum : ∀ (D1 : DD) (i : Nat), Sh D1 n r C → i ≤ n → 0 ≤ si (fun j => shr r C j * shr r C j * shr r C j * len j) i ∧ si (fun j => shr r C j * shr r C j * shr r C j * len j) i < 2 ^ 475 := by
    intro D1 i hs hi
    refine ⟨si_nn (fun j hj => (sbd D1 j hs (by omega)).1), ?_⟩
    have e1 := si_le (n := i) (B := 2 ^ 470) (fun j hj => (sbd D1 j hs (by omega)).2)
    have e2 : (i : Int) * 2 ^ 470 ≤ 24 * 2 ^ 470 := Int.mul_le_mul_of_nonneg_right (by omega) (by decide)
    have e3 : 24 * (2 : Int) ^ 470 < 2 ^ 475 := by decide
    omega
  have bb : (2 : Int) ^ 475 < BB ^ 30 := by decide
  have bb2 : (2 : Int) ^ 475 < BB ^ 32 := by decide
  intro m
  induction m with
  | zero =>
    intro i D1 hm hf hs hsum
    have hp1 := hp.rk k hf
    have e := hp1.1
    obtain rfl : i = n := by omega
    refine s_Re_reckonCost_15 k ⟨fun _ => (copyFrom_ok (zs_Fr_top kc) rfl hsum).mono fun D2 r2 => ?_, fun z => by omega⟩
    have hC0 := hs.2.1
    have cb := mul3 (x := C) (B := 2 ^ 140) (by omega) (by omega)
    have c1 : (2 : Int) ^ 140 * 2 ^ 140 < BB ^ 32 := by decide
    have c2 : (2 : Int) ^ 140 * 2 ^ 140 * 2 ^ 140 = 2 ^ 420 := by decide
    have c3 : (2 : Int) ^ 420 < BB ^ 30 := by decide
    have c4 : (2 : Int) ^ 420 < BB ^ 32 := by decide
    have cpos : 0 < C * C * C := Int.mul_pos (Int.mul_pos hC0 hC0) hC0
    have hc2 := hs.1.fa r2.2 (zs_Fr_top kc) rfl (by omega)
    refine s_Re_reckonCost_110 k ((setProduct_ok (a := 402) (b := 406) (c := 406) rfl rfl rfl (by decide) (by decide) hc2 hc2 (by omega)).mono fun D3 r3 => ?_)
    have hc3 := hc2.fa r3.2 rfl rfl (by decide)
    refine s_Re_reckonCost_125 k ((setProduct_ok (a := a + 9) (b := 402) (c := 406) (zs_Fr_below kc) rfl rfl (by omega) (by omega) r3.1 hc3 (by omega)).mono fun D4 r4 => ?_)
    have ht4 := (r2.1.fa r3.2 rfl (zs_Fr_top kc) (by omega)).fa r4.2 (zs_Fr_below kc) (zs_Fr_top kc) (by omega)
    have sb := ssum D1 i hs (Nat.le_refl _)
    -- strictly below 2^420
    have c5 : C * C * C < 2 ^ 420 := by
      have d1 : C * C ≤ C * 2 ^ 140 := Int.mul_le_mul_of_nonneg_left (by omega) (by omega)
      have d2 : C * C * C ≤ 2 ^ 140 * 2 ^ 140 * C := Int.mul_le_mul_of_nonneg_right cb.1 (by omega)
      have d3 : 2 ^ 140 * 2 ^ 140 * C < 2 ^ 140 * 2 ^ 140 * 2 ^ 140 := Int.mul_lt_mul_of_pos_left (by omega) (by decide)
      omega
    refine s_Re_reckonCost_143 k ((lower_ok (a := a + 6) kc (p := si (fun j => shr r C j * shr r C j * shr r C j * len j) i) (q := C * C * C) ⟨ht4, r4.1⟩ cpos (by omega) (by omega)).mono fun D5 r5 => s_Re_reckonCost_151 (retV ⟨⟨_, rfl, ?_⟩, ?_⟩))
    · rw [← cost_rat hs (len := len)]
      have ll := low_le sb.1 cpos
      have e3 : (((2 : Nat) ^ 420 : Nat) : Int) = (2 : Int) ^ 420 := by norm_cast
      refine ⟨r5.1, by omega, ?_⟩
      omega
    · refine FR.tr (FR.tr (hf.mono fun c _ _ => by omega) (FR.fa r2.2 (by omega))) (((FR.fa r3.2 (by omega)).tr (FR.fa r4.2 (by omega))).tr ?_)
      exact r5.2.mono fun c _ _ => by omega
  | succ m ih =>
    intro i D1 hm hf hs hsum
    have hp1 := hp.rk k hf
    have e := hp1.1
    have hi : i < n := by omega
    have b := shr_bd hs hr hC hi
    have m3 := mul3 b.1 b.2
    have l := hl i hi
    have m1 : (2 : Int) ^ 154 * 2 ^ 154 < BB ^ 32 := by decide
    have m2 : (2 : Int) ^ 154 * 2 ^ 154 * 2 ^ 154 < BB ^ 32 := by decide
    have s3 := sbd D1 i hs hi
    have ss := ssum D1 (i + 1) hs (by omega)
    have b470 : (2 : Int) ^ 470 < BB ^ 32 := by decide
    have kn := zk_share (i := i) (by omega)
    refine s_Re_reckonCost_15 k ⟨fun z => by omega, fun _ => ⟨by omega, ?_⟩⟩
    rw [Int.toNat_natCast]
    have hS : Na D1 (409 + 2 * i) (shr r C i) := hs.2.2.2 i hi
    refine (setProduct_ok (a := 402) rfl kn kn (by omega) (by omega) hS hS (by omega)).mono fun D2 r2 => ?_
    have hs2 := hs.rk2 hn (lo := 400) (hi := 406) (FR.fa r2.2 (by omega)) (by omega)
    have hS2 : Na D2 (409 + 2 * i) (shr r C i) := hs2.2.2.2 i hi
    refine s_Re_reckonCost_42 k ⟨by omega, ?_⟩
    rw [Int.toNat_natCast]
    refine (setProduct_ok (a := 400) rfl rfl kn (by decide) (by omega) r2.1 hS2 (by omega)).mono fun D3 r3 => ?_
    have f3 : FR 391 457 391 457 D D3 := hf.tr ((FR.fa r2.2 (by omega)).tr (FR.fa r3.2 (by omega)))
    have e2 : D3 (a + 2) i - D3 (a + 1) i = len i := by rw [f3 (a + 2) (by omega) (by omega), f3 (a + 1) (by omega) (by omega)]; exact l.1
    refine s_Re_reckonCost_59 k ⟨⟨by omega, by omega, by unfold R32; omega⟩, ?_⟩
    rw [e2]
    refine (times_ok rfl r3.1 l.2.1 (by omega)).mono fun D4 r4 => ?_
    have hsum4 := ((hsum.fa r2.2 rfl rfl (by decide)).fa r3.2 rfl rfl (by decide)).fa r4.2 rfl rfl (by decide)
    refine s_Re_reckonCost_79 k ((add_ok (a := 404) (b := 400) rfl rfl (by decide) hsum4 r4.1 (by have : si (fun j => shr r C j * shr r C j * shr r C j * len j) (i + 1) = si (fun j => shr r C j * shr r C j * shr r C j * len j) i + shr r C i * shr r C i * shr r C i * len i := rfl
                                                                                                  omega)).mono fun D5 r5 => ?_)
    refine s_Re_reckonCost_90 k ⟨by unfold R32; omega, ih (i + 1) D5 (by omega) ?_ ?_ r5.1⟩
    · exact f3.tr ((FR.fa r4.2 (by omega)).tr (FR.fa r5.2 (by omega)))
    · exact ((hs2.rk2 hn (lo := 400) (hi := 406) (FR.fa r3.2 (by omega)) (by omega)).rk2 hn (lo := 400) (hi := 406) (FR.fa r4.2 (by omega)) (by omega)).rk2 hn (lo := 400) (hi := 406) (FR.fa r5.2 (by omega)) (by omega)
theorem reckonCost_ok (k : zk a = (0, 5, 0)) {n : Nat} {r : Nat → Rat} {L : Int} {len : Nat → Int} (hp : Pf D a n r) (hl : ∀ i : Nat, i < n → D (a + 2) i - D (a + 1) i = len i ∧ 0 ≤ len i ∧ len i ≤ 200) (hr : ∀ i, i < n → r i ≤ 12000) (hL : 0 < L) (hL2 : L < 2 ^ 140) (hd : ∀ i, i < n → ((r i).den : Int) ∣ L) :
    CV g M_Re_reckonCost [vR 391, vR a] D (fun D' => (∃ x, x = su (fun j => r j * r j * r j * (len j : Rat)) n ∧ Fq D' (a + 6) x ∧ x.num < 2 ^ 475 ∧ x.den < 2 ^ 420) ∧ FR 391 457 (a + 6) (a + 11) D D') := by
  have pa := pr_at k
  refine CV.intro mc_Re_reckonCost (Nat.le_of_ble_eq_true rfl) rfl (s_Re_reckonCost_0 k ((shareOut_ok k hp hr hL hL2 hd).mono fun D2 r2 => ?_))
  obtain ⟨⟨C, hCL, hs⟩, f2⟩ := r2
  refine s_Re_reckonCost_5 k ((setSmall_ok (a := 404) rfl (x := 0) (by decide)).mono fun D3 r3 => s_Re_reckonCost_13 k ?_)
  have f3 : FR 391 457 391 457 D D3 := f2.tr (FR.fa r3.2 (by omega))
  refine cost_loop (C := C) k hp hl hr (by omega) n 0 D3 (by omega) f3 ?_ r3.1
  exact hs.rk2 hp.2.1 (lo := 400) (hi := 406) (FR.fa r3.2 (by omega)) (by omega)
theorem lengthWithin_ok (k : zk a = (0, 5, 0)) {n : Nat} {r : Nat → Rat} (hp : Pf D a n r) {i : Nat} (hi : i < n) {u v : Int} (hb : 0 ≤ D (a + 1) i ∧ D (a + 1) i ≤ 200) (he : 0 ≤ D (a + 2) i ∧ D (a + 2) i ≤ 200) (hu : 0 ≤ u ∧ u ≤ 200) (hv : 0 ≤ v ∧ v ≤ 200) :
    CI g M_Pr_lengthWithin [vR a, vI i, vI u, vI v] D (fun x D' => D' = D ∧ x = max 0 (min (D (a + 2) i) v - max (D (a + 1) i) u)) := by
  have e := hp.1
  have := hp.2.1
  exact CI.intro mc_Pr_lengthWithin (Nat.le_of_ble_eq_true rfl) rfl (s_Pr_lengthWithin_0 k ⟨fun z => by omega, fun _ => ⟨fun _ => ⟨⟨by omega, by omega, by unfold R32; omega⟩, retI ⟨rfl, rfl⟩⟩, fun z => by omega⟩⟩)
end RE2
