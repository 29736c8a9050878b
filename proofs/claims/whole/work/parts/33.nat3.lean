/-! the Natural: divideSmall, shiftDown, freeBits, setProduct; Arrays.fill -/
section NA3
variable {g : GG} {D D0 : DD} {a b c : Nat} {v w : Int}
theorem divideSmall_loop (ka : zk a = (0, 3, 0)) (ha : Na D0 a v) {f : Int} (hf0 : 1 ≤ f ∧ f ≤ 2147483647) : ∀ (n : Nat) (x r : Int) (D : DD), x + 1 = n → x < D0 a 1 → (0 ≤ r ∧ r < f) → D a = D0 a → Fa D0 D a → Dg (D (a + 1)) BB (D0 a 1) →
    f * (Ds (D (a + 1)) BB (D0 a 1) - Ds (D (a + 1)) BB (x + 1)) + r * BB ^ (x + 1).toNat + Ds (D (a + 1)) BB (x + 1) = v →
    Sg g M_Na_divideSmall (rI (fun y D' => Na D' a (v / f) ∧ Fa D0 D' a ∧ y = v % f)) 17 [vR a, vI f, vL r, vU, vI x] [] D := by
  have a1 := ha.1
  intro n
  induction n with
  | zero =>
    intro x r D hn hx hr hs hf hd hv
    have hx1 : x + 1 = 0 := by omega
    have hsa : D a 1 = D0 a 1 := by rw [hs]
    rw [hx1, Ds_0, Int.sub_zero] at hv
    have hv2 : f * Ds (D (a + 1)) BB (D0 a 1) + r = v := by
      have : BB ^ (0 : Int).toNat = 1 := rfl
      rw [this] at hv
      omega
    have hq : v / f = Ds (D (a + 1)) BB (D0 a 1) := by
      rw [← hv2, Int.mul_comm, Int.add_comm]
      rw [Int.add_mul_ediv_right _ _ (by omega), Int.ediv_eq_zero_of_lt hr.1 hr.2]
      omega
    have hm : v % f = r := by
      rw [← hv2, Int.mul_comm, Int.add_comm, Int.add_mul_emod_self_right, Int.emod_eq_of_lt hr.1 hr.2]
    refine s_Na_divideSmall_17 ka ⟨fun _ => ?_, fun q => by omega⟩
    refine (trim_ok ka (v := v / f) ⟨by omega, by rw [hsa]; exact hd, by rw [hsa, hq]⟩).mono (fun D' h => s_Na_divideSmall_63 ⟨by omega, retI ⟨h.1, hf.tr (fun c q1 q2 => h.2.2 c q1), hm.symm⟩⟩)
  | succ n ih =>
    intro x r D hn hx hr hs hf hd hv
    have hx0 : 0 ≤ x := by omega
    have hda := hd x hx0 hx
    have e : (2 : Int) ^ 31 = BB := by decide
    simp only [BB] at hda
    have m1 : r * 2 ^ 31 ≤ (f - 1) * 2 ^ 31 := Int.mul_le_mul_of_nonneg_right (by omega) (by decide)
    rw [e] at m1
    have hn0 : 0 ≤ r * 2 ^ 31 + D (a + 1) x := by rw [e]; simp only [BB]; omega
    have hlt : r * 2 ^ 31 + D (a + 1) x < f * BB := by rw [e]; simp only [BB] at m1 ⊢; omega
    have hq0 : 0 ≤ (r * 2 ^ 31 + D (a + 1) x) / f := Int.ediv_nonneg hn0 (by omega)
    have hq1 : (r * 2 ^ 31 + D (a + 1) x) / f < BB := Int.ediv_lt_of_lt_mul (by omega) (by rw [Int.mul_comm BB]; exact hlt)
    have hr0 : 0 ≤ (r * 2 ^ 31 + D (a + 1) x) % f := Int.emod_nonneg _ (by omega)
    have hr1 : (r * 2 ^ 31 + D (a + 1) x) % f < f := Int.emod_lt_of_pos _ (by omega)
    refine s_Na_divideSmall_17 ka ⟨fun q => by omega, fun q => ⟨⟨by rw [e]; simp only [BB] at m1 ⊢; omega, by omega, ⟨⟨by rw [e]; simp only [BB]; omega, hda.1, 31, Or.inl ⟨Int.mul_emod_left _ _, by rw [e]; exact hda.2⟩⟩, by rw [e] at hlt hn0 ⊢; simp only [BB] at m1 hlt hn0 ⊢; omega⟩, ⟨hn0, by omega⟩, by simp only [BB] at hq1; omega, by omega⟩, fun D9 e9 => ⟨⟨⟨hn0, by omega⟩, by omega⟩, ?_⟩⟩⟩
    have r2 : D9 (a + 1) = fun j => if j = x then (r * 2 ^ 31 + D (a + 1) x) / f else D (a + 1) j := by rw [e9, zw_row]
    have r0 : D9 a = D a := by rw [e9, zw_off (a_ne a)]
    refine ih (x + -1) _ D9 (by omega) (by omega) ⟨hr0, hr1⟩ (by rw [r0, hs]) (hf.tr (by rw [e9]; exact Fa.w1)) ?_ ?_
    · rw [r2]; exact Dg_set hd ⟨hq0, hq1⟩
    · have ex : x + -1 + 1 = x := by omega
      rw [ex, r2, Ds_set ⟨hx0, hx⟩, Ds_upl (Int.le_refl x)]
      rw [Ds_s hx0, pw_s BB hx0] at hv
      have hm := Int.mul_ediv_add_emod (r * 2 ^ 31 + D (a + 1) x) f
      rw [e] at hm ⊢
      generalize (r * BB + D (a + 1) x) / f = q at hm ⊢
      generalize (r * BB + D (a + 1) x) % f = r' at hm ⊢
      generalize Ds (D (a + 1)) BB (D0 a 1) = S at hv ⊢
      generalize Ds (D (a + 1)) BB x = T at hv ⊢
      generalize BB ^ x.toNat = p at hv ⊢
      generalize D (a + 1) x = d at hm hv ⊢
      have h5 : (f * q + r') * p = (r * BB + d) * p := by rw [hm]
      grind
theorem divideSmall_ok (ka : zk a = (0, 3, 0)) (ha : Na D a v) {f : Int} (hf0 : 1 ≤ f) : CI g M_Na_divideSmall [vR a, vI f] D (fun y D' => Na D' a (v / f) ∧ Fa D D' a ∧ y = v % f) := by
  have a1 := ha.1
  refine CI.intro mc_Na_divideSmall (Nat.le_of_ble_eq_true rfl) rfl (sg_ok fun h1 _ _ => ?_)
  have hr : R32 f := h1 (vI f) (List.mem_cons_of_mem _ List.mem_cons_self)
  refine s_Na_divideSmall_0 ka ⟨fun _ => ⟨by omega, divideSmall_loop ka ha ⟨hf0, hr.2⟩ (D a 1).toNat (D a 1 - 1) 0 D (by omega) (by omega) (by omega) rfl Fa.rf ha.2.1 ?_⟩, fun q => absurd hf0 q⟩
  rw [show D a 1 - 1 + 1 = D a 1 by omega, ha.2.2.2]
  simp
theorem shiftDown_loop (ka : zk a = (0, 3, 0)) (ha : Na D0 a v) {s f : Int} (hs0 : 0 ≤ s ∧ s ≤ 30) (hfs : f = 2 ^ s.toNat) : ∀ (n : Nat) (x r : Int) (D : DD), x + 1 = n → x < D0 a 1 → (0 ≤ r ∧ r < f) → D a = D0 a → Fa D0 D a → Dg (D (a + 1)) BB (D0 a 1) →
    f * (Ds (D (a + 1)) BB (D0 a 1) - Ds (D (a + 1)) BB (x + 1)) + r * BB ^ (x + 1).toNat + Ds (D (a + 1)) BB (x + 1) = v →
    Sg g M_Na_shiftDown (rV (fun D' => Na D' a (v / f) ∧ Fa D0 D' a)) 10 [vR a, vI s, vL r, vU, vI x] [] D := by
  have a1 := ha.1
  have hf0 : 1 ≤ f ∧ f ≤ 1073741824 := by
    rw [hfs]
    have := pw_pos (b := 2) (by decide) s.toNat
    refine ⟨by omega, ?_⟩
    exact ipow_le (n := s.toNat) (m := 30) (by omega)
  intro n
  induction n with
  | zero =>
    intro x r D hn hx hr hs hf hd hv
    have hx1 : x + 1 = 0 := by omega
    have hsa : D a 1 = D0 a 1 := by rw [hs]
    rw [hx1, Ds_0, Int.sub_zero] at hv
    have hv2 : f * Ds (D (a + 1)) BB (D0 a 1) + r = v := by
      have : BB ^ (0 : Int).toNat = 1 := rfl
      rw [this] at hv
      omega
    have hq : v / f = Ds (D (a + 1)) BB (D0 a 1) := by
      rw [← hv2, Int.mul_comm, Int.add_comm]
      rw [Int.add_mul_ediv_right _ _ (by omega), Int.ediv_eq_zero_of_lt hr.1 hr.2]
      omega
    refine s_Na_shiftDown_10 ka ⟨fun _ => ?_, fun q => by omega⟩
    refine (trim_ok ka (v := v / f) ⟨by omega, by rw [hsa]; exact hd, by rw [hsa, hq]⟩).mono (fun D' h => s_Na_shiftDown_58 (retV ⟨h.1, hf.tr (fun c q1 q2 => h.2.2 c q1)⟩))
  | succ n ih =>
    intro x r D hn hx hr hs hf hd hv
    have hx0 : 0 ≤ x := by omega
    have hda := hd x hx0 hx
    have e : (2 : Int) ^ 31 = BB := by decide
    simp only [BB] at hda
    have m1 : r * 2 ^ 31 ≤ (f - 1) * 2 ^ 31 := Int.mul_le_mul_of_nonneg_right (by omega) (by decide)
    rw [e] at m1
    have hn0 : 0 ≤ r * 2 ^ 31 + D (a + 1) x := by rw [e]; simp only [BB]; omega
    have hlt : r * 2 ^ 31 + D (a + 1) x < f * BB := by rw [e]; simp only [BB] at m1 ⊢; omega
    have hq0 : 0 ≤ (r * 2 ^ 31 + D (a + 1) x) / f := Int.ediv_nonneg hn0 (by omega)
    have hq1 : (r * 2 ^ 31 + D (a + 1) x) / f < BB := Int.ediv_lt_of_lt_mul (by omega) (by rw [Int.mul_comm BB]; exact hlt)
    have hr0 : 0 ≤ (r * 2 ^ 31 + D (a + 1) x) % f := Int.emod_nonneg _ (by omega)
    have hr1 : (r * 2 ^ 31 + D (a + 1) x) % f < f := Int.emod_lt_of_pos _ (by omega)
    refine s_Na_shiftDown_10 ka ⟨fun q => by omega, fun q => ?_⟩
    rw [← hfs]
    refine ⟨⟨by rw [e]; simp only [BB] at m1 ⊢; omega, by omega, ⟨⟨by rw [e]; simp only [BB]; omega, hda.1, 31, Or.inl ⟨Int.mul_emod_left _ _, by rw [e]; exact hda.2⟩⟩, by rw [e] at hlt hn0 ⊢; simp only [BB] at m1 hlt hn0 ⊢; omega⟩, by omega, by simp only [BB] at hq1; omega, by omega⟩, fun D9 e9 => ⟨⟨⟨by omega, by omega⟩, by omega, by omega, by omega⟩, ?_⟩⟩
    have r2 : D9 (a + 1) = fun j => if j = x then (r * 2 ^ 31 + D (a + 1) x) / f else D (a + 1) j := by rw [e9, zw_row]
    have r0 : D9 a = D a := by rw [e9, zw_off (a_ne a)]
    refine ih (x + -1) _ D9 (by omega) (by omega) ⟨hr0, hr1⟩ (by rw [r0, hs]) (hf.tr (by rw [e9]; exact Fa.w1)) ?_ ?_
    · rw [r2]; exact Dg_set hd ⟨hq0, hq1⟩
    · have ex : x + -1 + 1 = x := by omega
      rw [ex, r2, Ds_set ⟨hx0, hx⟩, Ds_upl (Int.le_refl x)]
      rw [Ds_s hx0, pw_s BB hx0] at hv
      have hm := Int.mul_ediv_add_emod (r * 2 ^ 31 + D (a + 1) x) f
      rw [e] at hm ⊢
      generalize (r * BB + D (a + 1) x) / f = q at hm ⊢
      generalize (r * BB + D (a + 1) x) % f = r' at hm ⊢
      generalize Ds (D (a + 1)) BB (D0 a 1) = S at hv ⊢
      generalize Ds (D (a + 1)) BB x = T at hv ⊢
      generalize BB ^ x.toNat = p at hv ⊢
      generalize D (a + 1) x = d at hm hv ⊢
      have h5 : (f * q + r') * p = (r * BB + d) * p := by rw [hm]
      grind
theorem shiftDown_ok (ka : zk a = (0, 3, 0)) (ha : Na D a v) {s : Int} (hs0 : 0 ≤ s ∧ s ≤ 30) : CV g M_Na_shiftDown [vR a, vI s] D (fun D' => Na D' a (v / 2 ^ s.toNat) ∧ Fa D D' a) := by
  have a1 := ha.1
  refine CV.intro mc_Na_shiftDown (Nat.le_of_ble_eq_true rfl) rfl (s_Na_shiftDown_0 ka ⟨by omega, shiftDown_loop ka ha hs0 rfl (D a 1).toNat (D a 1 - 1) 0 D (by omega) (by omega) ⟨by decide, pw_pos (by decide) _⟩ rfl Fa.rf ha.2.1 ?_⟩)
  rw [show D a 1 - 1 + 1 = D a 1 by omega, ha.2.2.2]
  simp
theorem freeBits_loop {z0 : VV} {t : Int} (ht : 1 ≤ t) : ∀ (n : Nat) (x : Int), x + n = 30 → 0 ≤ x → t * 2 ^ x.toNat < BB → Sg g M_Na_freeBits (rI (fun s D' => D' = D ∧ (0 ≤ s ∧ s ≤ 30) ∧ (t * 2 ^ s.toNat < BB ∧ 1073741824 ≤ t * 2 ^ s.toNat))) 21 [z0, vI x, vI t] [] D := by
  intro n
  induction n generalizing z0 with
  | zero =>
    intro x hn hx hlt
    have hx30 : x = 30 := by omega
    subst hx30
    refine s_Na_freeBits_21 ⟨fun _ => retI ⟨rfl, ⟨by omega, by omega⟩, hlt, ?_⟩, fun q => by omega⟩
    have : 1 * 2 ^ (30 : Int).toNat ≤ t * 2 ^ (30 : Int).toNat := Int.mul_le_mul_of_nonneg_right ht (by decide)
    have e : (2 : Int) ^ (30 : Int).toNat = 1073741824 := by decide
    omega
  | succ n ih =>
    intro x hn hx hlt
    have hp := pw_pos (b := 2) (by decide) x.toNat
    have h0 : 0 ≤ t * 2 ^ x.toNat := Int.mul_nonneg (by omega) (by omega)
    refine s_Na_freeBits_21 ⟨fun q => by omega, fun q => ⟨⟨by omega, by simp only [BB] at hlt; omega⟩, fun c => retI ⟨rfl, ⟨hx, by omega⟩, hlt, c⟩, fun c => ⟨by omega, ih (x + 1) (by omega) (by omega) ?_⟩⟩⟩
    rw [pw_s 2 hx, ← Int.mul_assoc]
    simp only [BB]
    omega
theorem freeBits_ok (ka : zk a = (0, 3, 0)) (ha : Na D a v) (hv : 0 < v) : CI g M_Na_freeBits [vR a] D (fun s D' => D' = D ∧ (0 ≤ s ∧ s ≤ 30) ∧ (D (a + 1) (D a 1 - 1) * 2 ^ s.toNat < BB ∧ 1073741824 ≤ D (a + 1) (D a 1 - 1) * 2 ^ s.toNat)) := by
  have a1 := ha.1
  have hp := ha.pos.mpr hv
  have ht := ha.top hp
  have hd := ha.2.1 (D a 1 - 1) (by omega) (by omega)
  refine CI.intro mc_Na_freeBits (Nat.le_of_ble_eq_true rfl) rfl (s_Na_freeBits_0 ka ⟨fun q => by omega, fun _ => ⟨⟨by omega, by omega⟩, freeBits_loop (by omega) 30 0 (by omega) (by decide) ?_⟩⟩)
  have e : (2 : Int) ^ (0 : Int).toNat = 1 := rfl
  rw [e]
  omega
/-! Arrays.fill -/
theorem rangeCheck_ok {n x y : Int} (h : 0 ≤ x ∧ x ≤ y ∧ y ≤ n) : CV g M_Ar_rangeCheck [vI n, vI x, vI y] D (fun D' => D' = D) :=
  CV.intro mc_Ar_rangeCheck (Nat.le_of_ble_eq_true rfl) rfl (s_Ar_rangeCheck_0 ⟨fun _ => ⟨fun _ => ⟨fun _ => retV rfl, fun q => q h.2.2⟩, fun q => q h.1⟩, fun q => q h.2.1⟩)
theorem fill4_loop {n0 : Nat} (ka : zk a = (1, n0, 0)) {y x : Int} (hy : y ≤ n0) (hn0 : n0 ≤ 2147483647) {z1 : VV} {f0 : Int} : ∀ (n : Nat) (i : Int) (D : DD), i + n = y → f0 ≤ i → 0 ≤ i → (∀ c, c ≠ a → D c = D0 c) → (∀ j, D a j = if f0 ≤ j ∧ j < i then x else D0 a j) → Sg g M_Ar_fill4 (rV (fun D' => (∀ c, c ≠ a → D' c = D0 c) ∧ ∀ j, D' a j = if f0 ≤ j ∧ j < y then x else D0 a j)) 10 [vR a, z1, vI y, vI x, vI i] [] D := by
  intro n
  induction n generalizing z1 with
  | zero =>
    intro i D hn hf hi ho hj
    have : i = y := by omega
    subst this
    exact s_Ar_fill4_10 ka ⟨fun _ => retV ⟨ho, hj⟩, fun q => by omega⟩
  | succ n ih =>
    intro i D hn hf hi ho hj
    refine s_Ar_fill4_10 ka ⟨fun q => by omega, fun q => ⟨by omega, fun D3 e3 => ⟨by omega, ih (i + 1) D3 (by omega) (by omega) (by omega) (fun c hc => by rw [e3, zw_off hc]; exact ho c hc) (fun j => ?_)⟩⟩⟩
    rw [e3]
    by_cases h : j = i
    · subst h
      rw [zw_eq, if_pos ⟨hf, by omega⟩]
    · rw [zw_ne (Or.inr h), hj j]
      by_cases h2 : f0 ≤ j ∧ j < i
      · rw [if_pos h2, if_pos (by omega)]
      · rw [if_neg h2, if_neg (by omega)]
theorem fill4_ok {n0 : Nat} (ka : zk a = (1, n0, 0)) {f0 y x : Int} (hn0 : n0 ≤ 2147483647) (h : 0 ≤ f0 ∧ f0 ≤ y ∧ y ≤ n0) : CV g M_Ar_fill4 [vR a, vI f0, vI y, vI x] D (fun D' => (∀ c, c ≠ a → D' c = D c) ∧ ∀ j, D' a j = if f0 ≤ j ∧ j < y then x else D a j) :=
  CV.intro mc_Ar_fill4 (Nat.le_of_ble_eq_true rfl) rfl (s_Ar_fill4_0 ka ⟨hn0, (rangeCheck_ok h).mono fun D' e => by
    subst e
    exact s_Ar_fill4_7 ka (fill4_loop ka h.2.2 hn0 (y - f0).toNat f0 D' (by omega) (Int.le_refl _) h.1 (fun _ _ => rfl) (fun j => by rw [if_neg (by omega)]))⟩)
theorem fill2_loop {n0 : Nat} (ka : zk a = (1, n0, 0)) (hn0 : n0 ≤ 2147483647) {x : Int} : ∀ (n : Nat) (i : Int) (D : DD), i + n = n0 → 0 ≤ i → (∀ c, c ≠ a → D c = D0 c) → (∀ j, D a j = if 0 ≤ j ∧ j < i then x else D0 a j) → Sg g M_Ar_fill2 (rV (fun D' => (∀ c, c ≠ a → D' c = D0 c) ∧ ∀ j, D' a j = if 0 ≤ j ∧ j < n0 then x else D0 a j)) 5 [vR a, vI x, vI i, vI n0] [] D := by
  intro n
  induction n with
  | zero =>
    intro i D hn hi ho hj
    have : i = n0 := by omega
    subst this
    exact s_Ar_fill2_5 ka ⟨fun _ => retV ⟨ho, hj⟩, fun q => by omega⟩
  | succ n ih =>
    intro i D hn hi ho hj
    refine s_Ar_fill2_5 ka ⟨fun q => by omega, fun q => ⟨by omega, fun D3 e3 => ⟨by omega, ih (i + 1) D3 (by omega) (by omega) (fun c hc => by rw [e3, zw_off hc]; exact ho c hc) (fun j => ?_)⟩⟩⟩
    rw [e3]
    by_cases h : j = i
    · subst h
      rw [zw_eq, if_pos ⟨hi, by omega⟩]
    · rw [zw_ne (Or.inr h), hj j]
      by_cases h2 : 0 ≤ j ∧ j < i
      · rw [if_pos h2, if_pos (by omega)]
      · rw [if_neg h2, if_neg (by omega)]
theorem fill2_ok {n0 : Nat} (ka : zk a = (1, n0, 0)) {x : Int} (hn0 : n0 ≤ 2147483647) : CV g M_Ar_fill2 [vR a, vI x] D (fun D' => (∀ c, c ≠ a → D' c = D c) ∧ ∀ j, D' a j = if 0 ≤ j ∧ j < n0 then x else D a j) :=
  CV.intro mc_Ar_fill2 (Nat.le_of_ble_eq_true rfl) rfl (s_Ar_fill2_0 ka ⟨hn0, fill2_loop ka hn0 n0 0 D (by omega) (by decide) (fun _ _ => rfl) (fun j => by rw [if_neg (by omega)])⟩)
end NA3
