/-! frames of two stretches of cells; Euclid on longs; the Fraction -/
def FR (lo hi lo2 hi2 : Nat) (D D' : DD) : Prop := ∀ c, (c < lo ∨ hi ≤ c) → (c < lo2 ∨ hi2 ≤ c) → D' c = D c
theorem FR.rf {lo hi lo2 hi2 : Nat} {D : DD} : FR lo hi lo2 hi2 D D := fun _ _ _ => rfl
theorem FR.tr {lo hi lo2 hi2 : Nat} {D D' D'' : DD} (h : FR lo hi lo2 hi2 D D') (h' : FR lo hi lo2 hi2 D' D'') : FR lo hi lo2 hi2 D D'' := fun c h1 h2 => (h' c h1 h2).trans (h c h1 h2)
theorem FR.mono {lo hi lo2 hi2 lo' hi' lo2' hi2' : Nat} {D D' : DD} (h : FR lo hi lo2 hi2 D D') (q : ∀ c, (c < lo' ∨ hi' ≤ c) → (c < lo2' ∨ hi2' ≤ c) → (c < lo ∨ hi ≤ c) ∧ (c < lo2 ∨ hi2 ≤ c)) : FR lo' hi' lo2' hi2' D D' := fun c h1 h2 => h c (q c h1 h2).1 (q c h1 h2).2
theorem FR.fa {lo hi lo2 hi2 a : Nat} {D D' : DD} (h : Fa D D' a) (q : (lo ≤ a ∧ a + 1 < hi) ∨ (lo2 ≤ a ∧ a + 1 < hi2)) : FR lo hi lo2 hi2 D D' := fun c h1 h2 => h c (by omega) (by omega)
theorem FR.w {lo hi lo2 hi2 a : Nat} {D : DD} {i x : Int} (q : (lo ≤ a ∧ a < hi) ∨ (lo2 ≤ a ∧ a < hi2)) : FR lo hi lo2 hi2 D (zw D a i x) := fun c h1 h2 => zw_off (by omega)
theorem FR.f3 {lo hi lo2 hi2 a b d : Nat} {D D' : DD} (h : F3 D D' a b d) (q : (lo ≤ a ∧ a + 1 < hi) ∨ (lo2 ≤ a ∧ a + 1 < hi2)) (q2 : (lo ≤ b ∧ b + 1 < hi) ∨ (lo2 ≤ b ∧ b + 1 < hi2)) (q3 : (lo ≤ d ∧ d + 1 < hi) ∨ (lo2 ≤ d ∧ d + 1 < hi2)) : FR lo hi lo2 hi2 D D' := fun c h1 h2 => h c (by omega) (by omega) (by omega) (by omega) (by omega) (by omega)
theorem Na.fr {lo hi lo2 hi2 : Nat} {D D' : DD} {b : Nat} {v : Int} (h : Na D b v) (hf : FR lo hi lo2 hi2 D D') (q : (b + 1 < lo ∨ hi ≤ b) ∧ (b + 1 < lo2 ∨ hi2 ≤ b)) : Na D' b v :=
  h.of (hf b (by omega) (by omega)) (hf (b + 1) (by omega) (by omega))
theorem Na.f3 {D D' : DD} {a c d b : Nat} {v : Int} (h : Na D b v) (hf : F3 D D' a c d) (ka : zk a = (0, 3, 0)) (kb : zk b = (0, 3, 0)) (kc : zk c = (0, 3, 0)) (kd : zk d = (0, 3, 0)) (h1 : b ≠ a) (h2 : b ≠ c) (h3 : b ≠ d) : Na D' b v :=
  h.of (hf b h1 (na_ne ka kb) h2 (na_ne kc kb) h3 (na_ne kd kb)) (hf (b + 1) (fun z => na_ne kb ka z.symm) (fun z => h1 (Nat.succ.inj z)) (fun z => na_ne kb kc z.symm) (fun z => h2 (Nat.succ.inj z)) (fun z => na_ne kb kd z.symm) (fun z => h3 (Nat.succ.inj z)))
/-- the greatest common divisor, a whole number -/
def gcdi (x y : Int) : Int := (Int.gcd x y : Int)
theorem gcdi_nn {x y : Int} : 0 ≤ gcdi x y := Int.natCast_nonneg _
theorem gcdi_0 {x : Int} (h : 0 ≤ x) : gcdi x 0 = x := by
  unfold gcdi
  rw [Int.gcd_zero]
  omega
theorem gcdi_step {x y : Int} : gcdi y (x % y) = gcdi x y := by
  unfold gcdi
  have e : x % y = x - y * (x / y) := by have := Int.mul_ediv_add_emod x y; omega
  rw [e, Int.gcd_sub_mul_left_right, Int.gcd_comm]
theorem gcdi_dl {x y : Int} : gcdi x y ∣ x := Int.gcd_dvd_left ..
theorem gcdi_dr {x y : Int} : gcdi x y ∣ y := Int.gcd_dvd_right ..
theorem gcdi_pos {x y : Int} (h : 0 < y) : 0 < gcdi x y := by
  have : 0 < Int.gcd x y := Int.gcd_pos_of_ne_zero_right _ (by omega)
  unfold gcdi
  omega
theorem gcdi_le {x y : Int} (h : 0 < y) : gcdi x y ≤ y := Int.gcd_le_right _ h
theorem gcdi_comm {x y : Int} : gcdi x y = gcdi y x := by unfold gcdi; rw [Int.gcd_comm]
/-- a turn of Euclid halves the product -/
theorem half_step {x y : Int} (hx : y ≤ x) (hy : 0 < y) : y * (x % y) * 2 ≤ x * y := by
  have h1 := Int.emod_nonneg x (show y ≠ 0 by omega)
  have h2 := Int.emod_lt_of_pos x hy
  have h3 : x % y * 2 ≤ x := by
    have h4 : y * 1 ≤ y * (x / y) := Int.mul_le_mul_of_nonneg_left (by have := Int.le_ediv_of_mul_le hy (a := 1) (b := x) (by omega); omega) (by omega)
    have := Int.mul_ediv_add_emod x y
    omega
  have : y * (x % y * 2) ≤ y * x := Int.mul_le_mul_of_nonneg_left h3 (by omega)
  rw [Int.mul_assoc, Int.mul_comm x y]
  exact this
section FR1
variable {g : GG} {D : DD}
theorem keCommon_loop {D : DD} {G : Int} {z0 z1 z2 z3 : VV} : ∀ (n : Nat) (x y i : Int) (z0 z1 z2 z3 z9 z10 : VV), 0 ≤ x → 0 ≤ y → y ≤ x → x * y < 2 ^ n → gcdi x y = G → 0 ≤ i → i + n < 10000 → Sg g M_Ke_commonOf (rL (fun v D' => D' = D ∧ v = G)) 9 [z0, z1, z2, z3, vL x, vU, vL y, vU, vI i, z9, z10] [] D := by
  intro n
  induction n with
  | zero =>
    intro x y i z0 z1 z2 z3 z9 z10 hx hy hyx hp hg hi hn
    have hy0 : y = 0 := by
      rcases Int.lt_or_le 0 y with q | q
      · have : 1 * 1 ≤ x * y := Int.mul_le_mul (by omega) (by omega) (by omega) (by omega)
        omega
      · omega
    exact s_Ke_commonOf_9 ⟨fun q => by omega, fun _ => ⟨fun _ => retL ⟨rfl, by rw [← hg, hy0, gcdi_0 hx]⟩, fun q => by omega⟩⟩
  | succ n ih =>
    intro x y i z0 z1 z2 z3 z9 z10 hx hy hyx hp hg hi hn
    refine s_Ke_commonOf_9 ⟨fun q => by omega, fun _ => ⟨fun q => retL ⟨rfl, by rw [← hg, q, gcdi_0 hx]⟩, fun q => ⟨⟨⟨hx, by omega⟩, by unfold R32; omega⟩, ?_⟩⟩⟩
    have h1 := Int.emod_nonneg x (show y ≠ 0 by omega)
    have h2 := Int.emod_lt_of_pos x (show 0 < y by omega)
    have h3 := half_step hyx (by omega)
    refine ih y (x % y) (i + 1) _ _ _ _ _ _ hy h1 (by omega) ?_ (by rw [gcdi_step]; exact hg) (by omega) (by omega)
    rw [Int.pow_succ] at hp
    omega
theorem keCommon_ok {x y : Int} (hx : 0 ≤ x) (hy : 0 ≤ y) (hxy : x * y < 2 ^ 128) : CL g M_Ke_commonOf [vL x, vL y] D (fun v D' => D' = D ∧ v = gcdi x y) := by
  refine CL.intro mc_Ke_commonOf (Nat.le_of_ble_eq_true rfl) rfl (s_Ke_commonOf_0 ?_)
  rcases Int.lt_or_le x y with q | q
  · refine s_Ke_commonOf_9 ⟨fun q => by omega, fun _ => ⟨fun q => by omega, fun q => ⟨⟨⟨hx, by omega⟩, by decide⟩, ?_⟩⟩⟩
    rw [Int.emod_eq_of_lt hx (by assumption)]
    exact keCommon_loop (z0 := vU) (z1 := vU) (z2 := vU) (z3 := vU) 128 y x _ _ _ _ _ _ _ hy hx (by omega) (by rw [Int.mul_comm]; exact hxy) gcdi_comm (by omega) (by omega)
  · exact keCommon_loop (z0 := vU) (z1 := vU) (z2 := vU) (z3 := vU) 128 x y _ _ _ _ _ _ _ hx hy q hxy rfl (by omega) (by omega)
end FR1
/-- a fraction's cells hold p over q -/
def Fp (D : DD) (a : Nat) (p q : Int) : Prop := Na D (a + 1) p ∧ Na D (a + 3) q
/-- a fraction's cells hold a rational in least terms -/
def Fq (D : DD) (a : Nat) (x : Rat) : Prop := Fp D a x.num x.den
/-- only a fraction's cells are changed -/
def FF (a : Nat) (D D' : DD) : Prop := FR a (a + 5) a (a + 5) D D'
theorem Fp.fr {lo hi lo2 hi2 : Nat} {D D' : DD} {b : Nat} {p q : Int} (h : Fp D b p q) (hf : FR lo hi lo2 hi2 D D') (s : (b + 4 < lo ∨ hi ≤ b) ∧ (b + 4 < lo2 ∨ hi2 ≤ b)) : Fp D' b p q :=
  ⟨h.1.fr hf (by omega), h.2.fr hf (by omega)⟩
theorem Fq.fr {lo hi lo2 hi2 : Nat} {D D' : DD} {b : Nat} {x : Rat} (h : Fq D b x) (hf : FR lo hi lo2 hi2 D D') (s : (b + 4 < lo ∨ hi ≤ b) ∧ (b + 4 < lo2 ∨ hi2 ≤ b)) : Fq D' b x := Fp.fr h hf s
theorem Fq.nn {D : DD} {a : Nat} {x : Rat} (h : Fq D a x) : 0 ≤ x := Rat.num_nonneg.mp h.1.nn
/-- p over q in least terms -/
theorem rat_low {p q g : Int} (hq : 0 < q) (hg : gcdi p q = g) : (((p : Rat) / (q : Rat)).num = p / g) ∧ (((((p : Rat) / (q : Rat)).den : Nat) : Int) = q / g) := by
  rw [← Rat.divInt_eq_div, Rat.num_divInt, Rat.den_divInt, if_neg (by omega), Int.sign_eq_one_of_pos hq, Int.one_mul]
  have e : gcdi p q = (Int.gcd q p : Int) := by unfold gcdi; rw [Int.gcd_comm]
  subst hg
  rw [e]
  refine ⟨rfl, ?_⟩
  rw [Int.natCast_ediv]
  congr 1
  omega
theorem rat_low1 {p q : Int} (hq : 0 < q) (hg : gcdi p q = 1) : (((p : Rat) / (q : Rat)).num = p) ∧ (((((p : Rat) / (q : Rat)).den : Nat) : Int) = q) := by
  have := rat_low hq hg
  rwa [Int.ediv_one, Int.ediv_one] at this
theorem rat_nd {x : Rat} : x = (x.num : Rat) / (((x.den : Nat) : Int) : Rat) := by
  rw [← Rat.divInt_eq_div, Rat.num_divInt_den]
theorem rat_dpos {x : Rat} : (0 : Int) < (x.den : Int) := by have := x.den_pos; omega
theorem rat_g1 {x : Rat} : gcdi x.num x.den = 1 := by
  have := x.reduced
  unfold gcdi
  rw [Int.gcd_eq_natAbs_gcd_natAbs]
  show ((Nat.gcd x.num.natAbs x.den : Nat) : Int) = 1
  rw [this]
  rfl
