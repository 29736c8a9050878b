/-! the Fraction's methods; the Reckoner's divisor -/
theorem zk_all {P : Nat → Bool} (h : ((List.range 735).all P) = true) {a t n x : Nat} (ha : zk a = (t, n, x)) (ht : t < 9) : P a = true := by
  have h1 := zk_lt ha ht
  have h2 := List.all_eq_true.mp h a
  exact h2 (List.mem_range.mpr (by have : zE.2.1 = 735 := by decide +kernel
                                   omega))
theorem fr_rk {a : Nat} (h : zk a = (0, 4, 0)) : a + 4 < 391 ∨ 457 ≤ a := by
  have := zk_all (P := fun a => !(zk a == (0, 4, 0)) || decide (a + 4 < 391 ∨ 457 ≤ a)) (by decide +kernel) h (by decide)
  rw [h] at this
  simpa using this
theorem fr_sep {a b : Nat} (ha : zk a = (0, 4, 0)) (hb : zk b = (0, 4, 0)) (h : b ≠ a) : b + 4 < a ∨ a + 5 ≤ b := by
  have k : ∀ x y : Nat, zk x = (0, 4, 0) → zk y = (0, 4, 0) → y ≠ x + 1 ∧ y ≠ x + 2 ∧ y ≠ x + 3 ∧ y ≠ x + 4 := by
    intro x y hx hy
    have t1 := zs_Fr_top hx
    have t3 := zs_Fr_below hx
    have t2 := zs_Na_digits t1
    have t4 := zs_Na_digits t3
    refine ⟨?_, ?_, ?_, ?_⟩
    all_goals
      intro q
      rw [q] at hy
      simp_all
  have k1 := k a b ha hb
  have k2 := k b a hb ha
  omega
section FR2
variable {g : GG} {D : DD} {a b : Nat} {p q p2 q2 : Int} {x y : Rat}
theorem FFt {D D' : DD} (h : Fa D D' (a + 1)) : FF a D D' := FR.fa h (by omega)
theorem FFb {D D' : DD} (h : Fa D D' (a + 3)) : FF a D D' := FR.fa h (by omega)
theorem Na_t3 {D D' : DD} (k : zk a = (0, 4, 0)) (h : Na D (a + 3) q) (f : Fa D D' (a + 1)) : Na D' (a + 3) q := h.fa f (zs_Fr_top k) (zs_Fr_below k) (by omega)
theorem Na_t1 {D D' : DD} (k : zk a = (0, 4, 0)) (h : Na D (a + 1) q) (f : Fa D D' (a + 3)) : Na D' (a + 1) q := h.fa f (zs_Fr_below k) (zs_Fr_top k) (by omega)
theorem frSet_ok (k : zk a = (0, 4, 0)) (hp : 0 ≤ p) (hq : 1 ≤ q) (hpq : p * q < 2 ^ 128) : CV g M_Fr_setSmall [vR a, vL p, vL q] D (fun D' => Fq D' a ((p : Rat) / (q : Rat)) ∧ FF a D D') := by
  have g0 := gcdi_pos (x := p) (y := q) (by omega)
  have hl := rat_low (p := p) (q := q) (by omega) rfl
  refine CV.intro mc_Fr_setSmall (Nat.le_of_ble_eq_true rfl) rfl (s_Fr_setSmall_0 k ⟨fun z => by omega, fun _ => ⟨fun _ => (keCommon_ok hp (by omega) hpq).mono fun v D1 h => ?_, fun z => by omega⟩⟩)
  obtain ⟨rfl, rfl⟩ := h
  refine s_Fr_setSmall_18 k ⟨fun z => by omega, fun _ => ⟨⟨hp, g0⟩, (setSmall_ok (zs_Fr_top k) (Int.ediv_nonneg hp (by omega))).mono fun D2 h2 => s_Fr_setSmall_38 k ⟨⟨by omega, g0⟩, (setSmall_ok (zs_Fr_below k) (Int.ediv_nonneg (by omega) (by omega))).mono fun D3 h3 => s_Fr_setSmall_49 (retV ?_)⟩⟩⟩
  exact ⟨⟨by rw [hl.1]; exact Na_t1 k h2.1 h3.2, by rw [hl.2]; exact h3.1⟩, (FFt h2.2).tr (FFb h3.2)⟩
theorem frCopy_ok (ka : zk a = (0, 4, 0)) (kb : zk b = (0, 4, 0)) (hab : b ≠ a) (h : Fp D b p q) : CV g M_Fr_copyFrom [vR a, vR b] D (fun D' => Fp D' a p q ∧ FF a D D') := by
  have s := fr_sep ka kb hab
  refine CV.intro mc_Fr_copyFrom (Nat.le_of_ble_eq_true rfl) rfl (s_Fr_copyFrom_0 ka kb ((copyFrom_ok (zs_Fr_top ka) (zs_Fr_top kb) h.1).mono fun D2 h2 => ?_))
  have f2 : FF a D D2 := FFt h2.2
  refine s_Fr_copyFrom_11 ka kb ((copyFrom_ok (zs_Fr_below ka) (zs_Fr_below kb) (h.2.fr f2 (by omega))).mono fun D3 h3 => s_Fr_copyFrom_22 (retV ?_))
  exact ⟨⟨Na_t1 ka h2.1 h3.2, h3.1⟩, f2.tr (FFb h3.2)⟩
theorem frSame_ok (ka : zk a = (0, 4, 0)) (kb : zk b = (0, 4, 0)) (h : Fp D a p q) (h2 : Fp D b p2 q2) : CI g M_Fr_isSame [vR a, vR b] D (fun v D' => D' = D ∧ v = if p = p2 ∧ q = q2 then 1 else 0) := by
  refine CI.intro mc_Fr_isSame (Nat.le_of_ble_eq_true rfl) rfl (s_Fr_isSame_0 ka kb ((order_ok (zs_Fr_top ka) (zs_Fr_top kb) h.1 h2.1).mono fun v D' r => ?_))
  obtain ⟨rfl, rfl⟩ := r
  have e : ∀ v w : Int, scmp v w = 0 ↔ v = w := by
    intro v w
    unfold scmp
    split
    · omega
    · split <;> omega
  refine s_Fr_isSame_11 ka kb ⟨fun z => retI ⟨rfl, ?_⟩, fun z => (order_ok (zs_Fr_below ka) (zs_Fr_below kb) h.2 h2.2).mono fun v D' r => ?_⟩
  · rw [e] at z
    rw [if_neg (by omega)]
  · obtain ⟨rfl, rfl⟩ := r
    rw [e] at z
    refine s_Fr_isSame_25 ⟨fun z2 => retI ⟨rfl, ?_⟩, fun z2 => retI ⟨rfl, ?_⟩⟩
    · rw [e] at z2
      rw [if_neg (by omega)]
    · rw [e] at z2
      rw [if_pos ⟨z, z2⟩]
theorem rat_eq_iff {x y : Rat} : (x.num = y.num ∧ (x.den : Int) = y.den) ↔ x = y := by
  constructor
  · intro h
    exact Rat.ext h.1 (by omega)
  · intro h
    rw [h]
    exact ⟨rfl, rfl⟩
theorem frSameq_ok (ka : zk a = (0, 4, 0)) (kb : zk b = (0, 4, 0)) (h : Fq D a x) (h2 : Fq D b y) : CI g M_Fr_isSame [vR a, vR b] D (fun v D' => D' = D ∧ v = if x = y then 1 else 0) :=
  (frSame_ok ka kb h h2).mono fun v D' r => ⟨r.1, by rw [r.2]; simp only [rat_eq_iff]⟩
theorem reCommon_loop {D0 : DD} {G : Int} {Q : Option VV → EE → DD → Prop} (hQ : ∀ r D', (r = 392 ∨ r = 394) → Na D' r G → FR 392 400 392 400 D0 D' → Q (some (vR r)) zE D') : ∀ (m : Nat),
    (∀ (x y i : Int) (z1 z2 z6 : VV) (D : DD), Na D 392 x → Na D 394 y → x < BB ^ 30 → y < BB ^ 30 → FR 392 400 392 400 D0 D → gcdi x y = G → (∃ n : Nat, x * y < 2 ^ n ∧ n + (if y ≤ x then 0 else 1) ≤ m) → 0 ≤ i → i + m < 10000 → Sg g M_Re_commonOf Q 25 [vR 391, z1, z2, vR 392, vR 394, vI i, z6] [] D) ∧
    (∀ (x y i : Int) (z1 z2 z6 : VV) (D : DD), Na D 394 x → Na D 392 y → x < BB ^ 30 → y < BB ^ 30 → FR 392 400 392 400 D0 D → gcdi x y = G → (∃ n : Nat, x * y < 2 ^ n ∧ n + (if y ≤ x then 0 else 1) ≤ m) → 0 ≤ i → i + m < 10000 → Sg g M_Re_commonOf Q 25 [vR 391, z1, z2, vR 394, vR 392, vI i, z6] [] D) := by
  intro m
  induction m with
  | zero =>
    refine ⟨?_, ?_⟩
    · intro x y i z1 z2 z6 D hx hy hx30 hy30 hf hg hp hi hm
      obtain ⟨n, n1, n2⟩ := hp
      split at n2
      · have n0 : n = 0 := by omega
        subst n0
        have hxn := hx.nn
        have hyn := hy.nn
        have y0 : y = 0 := by
          rcases Int.lt_or_le 0 y with q | q
          · have : 1 * 1 ≤ x * y := Int.mul_le_mul (by omega) (by omega) (by omega) (by omega)
            omega
          · omega
        refine s_Re_commonOf_25 ⟨fun q => by omega, fun _ => (isZero_ok rfl hy).mono fun v2 D' h => ?_⟩
        obtain ⟨rfl, rfl⟩ := h
        rw [if_pos y0]
        exact s_Re_commonOf_38 ⟨fun q => hQ _ _ (Or.inl rfl) (by rw [← hg, y0, gcdi_0 hxn]; exact hx) hf, fun q => by omega⟩
      · omega
    · intro x y i z1 z2 z6 D hx hy hx30 hy30 hf hg hp hi hm
      obtain ⟨n, n1, n2⟩ := hp
      split at n2
      · have n0 : n = 0 := by omega
        subst n0
        have hxn := hx.nn
        have hyn := hy.nn
        have y0 : y = 0 := by
          rcases Int.lt_or_le 0 y with q | q
          · have : 1 * 1 ≤ x * y := Int.mul_le_mul (by omega) (by omega) (by omega) (by omega)
            omega
          · omega
        refine s_Re_commonOf_25b ⟨fun q => by omega, fun _ => (isZero_ok rfl hy).mono fun v2 D' h => ?_⟩
        obtain ⟨rfl, rfl⟩ := h
        rw [if_pos y0]
        exact s_Re_commonOf_38b ⟨fun q => hQ _ _ (Or.inr rfl) (by rw [← hg, y0, gcdi_0 hxn]; exact hx) hf, fun q => by omega⟩
      · omega
  | succ m ih =>
    refine ⟨?_, ?_⟩
    · -- 392 over 394
      intro x y i z1 z2 z6 D hx hy hx30 hy30 hf hg hp hi hm
      have hxn := hx.nn
      have hyn := hy.nn
      refine s_Re_commonOf_25 ⟨fun q => by omega, fun _ => (isZero_ok rfl hy).mono fun v2 D' h => ?_⟩
      obtain ⟨rfl, rfl⟩ := h
      refine s_Re_commonOf_38 ⟨fun q => ?_, fun q => (fitsLong_ok rfl hx).mono fun v3 D' h => ?_⟩
      · have y0 : y = 0 := by
          rcases Int.lt_or_le 0 y with z | z
          · rw [if_neg (by omega)] at q; omega
          · omega
        exact hQ _ _ (Or.inl rfl) (by rw [← hg, y0, gcdi_0 hxn]; exact hx) hf
      obtain ⟨rfl, rfl⟩ := h
      have y0 : 0 < y := by
        rcases Int.lt_or_le 0 y with z | z
        · exact z
        · rw [if_pos (by omega)] at q; omega
      have big : Sg g M_Re_commonOf Q 74 [vR 391, vU, vU, vR 392, vR 394, vI i, vU] [] D' := by
        refine s_Re_commonOf_74 ((divideBy_ok (a := 392) (b := 394) (c := 396) (d := 398) rfl rfl rfl rfl (by decide) (by decide) (by decide) (by decide) (by decide) (by decide) hx hy y0 hx30).mono fun D2 h => ?_)
        have h1 := Int.emod_nonneg x (show y ≠ 0 by omega)
        have h2 := Int.emod_lt_of_pos x y0
        refine s_Re_commonOf_88 ⟨by unfold R32; omega, ih.2 y (x % y) (i + 1) _ _ _ D2 (hy.f3 h.2.2 rfl rfl rfl rfl (by decide) (by decide) (by decide)) h.1 hy30 (by omega) (hf.tr (FR.f3 h.2.2 (by omega) (by omega) (by omega))) (by rw [gcdi_step]; exact hg) ?_ (by omega) (by omega)⟩
        rcases Int.lt_or_le x y with z | z
        · rw [Int.emod_eq_of_lt hxn z]
          obtain ⟨n, n1, n2⟩ := hp
          rw [if_neg (by omega)] at n2
          exact ⟨n, by rw [Int.mul_comm]; exact n1, by rw [if_pos (by omega)]; omega⟩
        · obtain ⟨n, n1, n2⟩ := hp
          rw [if_pos z] at n2
          have h3 := half_step z y0
          match n, n1, n2 with
          | 0, n1, n2 =>
            have : 1 * 1 ≤ x * y := Int.mul_le_mul (by omega) (by omega) (by omega) (by omega)
            omega
          | n + 1, n1, n2 =>
            rw [Int.pow_succ] at n1
            exact ⟨n, by omega, by rw [if_pos (by omega)]; omega⟩
      refine s_Re_commonOf_45 ⟨fun _ => big, fun q2 => (fitsLong_ok rfl hy).mono fun v4 D3 h => ?_⟩
      obtain ⟨rfl, rfl⟩ := h
      have xl : x < BB ^ 2 := by
        rcases Int.lt_or_le x (BB ^ 2) with z | z
        · exact z
        · rw [if_neg (by omega)] at q2; omega
      refine s_Re_commonOf_53 ⟨fun _ => big, fun q3 => (asLong_ok rfl hx xl).mono fun v4 D4 h => ?_⟩
      obtain ⟨rfl, rfl⟩ := h
      have yl : y < BB ^ 2 := by
        rcases Int.lt_or_le y (BB ^ 2) with z | z
        · exact z
        · rw [if_neg (by omega)] at q3; omega
      refine s_Re_commonOf_61 ((asLong_ok rfl hy yl).mono fun v5 D5 h => ?_)
      obtain ⟨rfl, rfl⟩ := h
      have hxy : v4 * v5 < 2 ^ 128 := by
        have e1 : v4 * v5 ≤ BB ^ 2 * BB ^ 2 := Int.mul_le_mul (by omega) (by omega) (by omega) (by decide)
        have e2 : BB ^ 2 * BB ^ 2 < 2 ^ 128 := by decide
        omega
      refine s_Re_commonOf_66 ((keCommon_ok hxn hyn hxy).mono fun v6 D6 h => ?_)
      obtain ⟨rfl, rfl⟩ := h
      refine s_Re_commonOf_69 ((setSmall_ok rfl gcdi_nn).mono fun D7 h => s_Re_commonOf_72 ?_)
      exact hQ _ _ (Or.inl rfl) (by rw [← hg]; exact h.1) (hf.tr (FR.fa h.2 (by omega)))
    · -- 394 over 392
      intro x y i z1 z2 z6 D hx hy hx30 hy30 hf hg hp hi hm
      have hxn := hx.nn
      have hyn := hy.nn
      refine s_Re_commonOf_25b ⟨fun q => by omega, fun _ => (isZero_ok rfl hy).mono fun v2 D' h => ?_⟩
      obtain ⟨rfl, rfl⟩ := h
      refine s_Re_commonOf_38b ⟨fun q => ?_, fun q => (fitsLong_ok rfl hx).mono fun v3 D' h => ?_⟩
      · have y0 : y = 0 := by
          rcases Int.lt_or_le 0 y with z | z
          · rw [if_neg (by omega)] at q; omega
          · omega
        exact hQ _ _ (Or.inr rfl) (by rw [← hg, y0, gcdi_0 hxn]; exact hx) hf
      obtain ⟨rfl, rfl⟩ := h
      have y0 : 0 < y := by
        rcases Int.lt_or_le 0 y with z | z
        · exact z
        · rw [if_pos (by omega)] at q; omega
      have big : Sg g M_Re_commonOf Q 74 [vR 391, vU, vU, vR 394, vR 392, vI i, vU] [] D' := by
        refine s_Re_commonOf_74b ((divideBy_ok (a := 394) (b := 392) (c := 396) (d := 398) rfl rfl rfl rfl (by decide) (by decide) (by decide) (by decide) (by decide) (by decide) hx hy y0 hx30).mono fun D2 h => ?_)
        have h1 := Int.emod_nonneg x (show y ≠ 0 by omega)
        have h2 := Int.emod_lt_of_pos x y0
        refine s_Re_commonOf_88b ⟨by unfold R32; omega, ih.1 y (x % y) (i + 1) _ _ _ D2 (hy.f3 h.2.2 rfl rfl rfl rfl (by decide) (by decide) (by decide)) h.1 hy30 (by omega) (hf.tr (FR.f3 h.2.2 (by omega) (by omega) (by omega))) (by rw [gcdi_step]; exact hg) ?_ (by omega) (by omega)⟩
        rcases Int.lt_or_le x y with z | z
        · rw [Int.emod_eq_of_lt hxn z]
          obtain ⟨n, n1, n2⟩ := hp
          rw [if_neg (by omega)] at n2
          exact ⟨n, by rw [Int.mul_comm]; exact n1, by rw [if_pos (by omega)]; omega⟩
        · obtain ⟨n, n1, n2⟩ := hp
          rw [if_pos z] at n2
          have h3 := half_step z y0
          match n, n1, n2 with
          | 0, n1, n2 =>
            have : 1 * 1 ≤ x * y := Int.mul_le_mul (by omega) (by omega) (by omega) (by omega)
            omega
          | n + 1, n1, n2 =>
            rw [Int.pow_succ] at n1
            exact ⟨n, by omega, by rw [if_pos (by omega)]; omega⟩
      refine s_Re_commonOf_45b ⟨fun _ => big, fun q2 => (fitsLong_ok rfl hy).mono fun v4 D3 h => ?_⟩
      obtain ⟨rfl, rfl⟩ := h
      have xl : x < BB ^ 2 := by
        rcases Int.lt_or_le x (BB ^ 2) with z | z
        · exact z
        · rw [if_neg (by omega)] at q2; omega
      refine s_Re_commonOf_53b ⟨fun _ => big, fun q3 => (asLong_ok rfl hx xl).mono fun v4 D4 h => ?_⟩
      obtain ⟨rfl, rfl⟩ := h
      have yl : y < BB ^ 2 := by
        rcases Int.lt_or_le y (BB ^ 2) with z | z
        · exact z
        · rw [if_neg (by omega)] at q3; omega
      refine s_Re_commonOf_61b ((asLong_ok rfl hy yl).mono fun v5 D5 h => ?_)
      obtain ⟨rfl, rfl⟩ := h
      have hxy : v4 * v5 < 2 ^ 128 := by
        have e1 : v4 * v5 ≤ BB ^ 2 * BB ^ 2 := Int.mul_le_mul (by omega) (by omega) (by omega) (by decide)
        have e2 : BB ^ 2 * BB ^ 2 < 2 ^ 128 := by decide
        omega
      refine s_Re_commonOf_66b ((keCommon_ok hxn hyn hxy).mono fun v6 D6 h => ?_)
      obtain ⟨rfl, rfl⟩ := h
      refine s_Re_commonOf_69b ((setSmall_ok rfl gcdi_nn).mono fun D7 h => s_Re_commonOf_72b ?_)
      exact hQ _ _ (Or.inr rfl) (by rw [← hg]; exact h.1) (hf.tr (FR.fa h.2 (by omega)))
theorem reCommon_ok {a b : Nat} {v w : Int} (ka : zk a = (0, 3, 0)) (kb : zk b = (0, 3, 0)) (ha : Na D a v) (hb : Na D b w) (h1 : b ≠ 392) (hv : v < BB ^ 30) (hw : w < BB ^ 30) :
    CR g M_Re_commonOf [vR 391, vR a, vR b] D (fun r D' => (r = 392 ∨ r = 394) ∧ Na D' r (gcdi v w) ∧ FR 392 400 392 400 D D') := by
  have va := ha.nn
  have wb := hb.nn
  refine CR.intro mc_Re_commonOf (Nat.le_of_ble_eq_true rfl) rfl (s_Re_commonOf_0 ka kb ((copyFrom_ok rfl ka ha).mono fun D2 h2 => s_Re_commonOf_16 kb ((copyFrom_ok rfl kb (hb.fa h2.2 rfl kb h1)).mono fun D3 h3 => s_Re_commonOf_22 ?_)))
  have hh := (reCommon_loop (g := g) (D0 := D) (G := gcdi v w) (Q := rR (fun r D' => (r = 392 ∨ r = 394) ∧ Na D' r (gcdi v w) ∧ FR 392 400 392 400 D D')) (fun r D' q1 q2 q3 => retR ⟨q1, q2, q3⟩) 1985).1
  refine hh v w 0 _ _ _ D3 (h2.1.fa h3.2 rfl rfl (by decide)) h3.1 hv hw ((FR.fa h2.2 (by omega)).tr (FR.fa h3.2 (by omega))) rfl ⟨1984, ?_, by split <;> omega⟩ (by omega) (by omega)
  have e1 : v * w ≤ BB ^ 30 * BB ^ 30 := Int.mul_le_mul (by omega) (by omega) (by omega) (by decide)
  have e2 : BB ^ 30 * BB ^ 30 < 2 ^ 1984 := by decide +kernel
  omega
end FR2
