/-! the model's fractions -/
def Mp (D : DD) (f p q : Int) : Prop := Mn D (2 * f) p ∧ Mn D (2 * f + 1) q
def Mq (D : DD) (f : Int) (x : Rat) : Prop := Mp D f x.num x.den
theorem Mp.fm {lo hi lo2 hi2 : Int} {D D' : DD} {f p q : Int} (h : Mp D f p q) (t : FM lo hi lo2 hi2 D D') (s : (2 * f + 1 < lo ∨ hi ≤ 2 * f) ∧ (2 * f + 1 < lo2 ∨ hi2 ≤ 2 * f)) : Mp D' f p q := ⟨h.1.fm t (by omega), h.2.fm t (by omega)⟩
theorem Mq.fm {lo hi lo2 hi2 : Int} {D D' : DD} {f : Int} {x : Rat} (h : Mq D f x) (t : FM lo hi lo2 hi2 D D') (s : (2 * f + 1 < lo ∨ hi ≤ 2 * f) ∧ (2 * f + 1 < lo2 ∨ hi2 ≤ 2 * f)) : Mq D' f x := Mp.fm h t s
theorem Mq.nn {D : DD} {f : Int} {x : Rat} (h : Mq D f x) : 0 ≤ x := Rat.num_nonneg.mp h.1.nn
theorem rat_add {p1 q1 p2 q2 : Int} (h1 : 0 < q1) (h2 : 0 < q2) : ((p1 * q2 + p2 * q1 : Int) : Rat) / ((q1 * q2 : Int) : Rat) = (p1 : Rat) / (q1 : Rat) + (p2 : Rat) / (q2 : Rat) := by
  have e1 : (q1 : Rat) ≠ 0 := fun z => by have := Rat.intCast_eq_zero_iff.mp z; omega
  have e2 : (q2 : Rat) ≠ 0 := fun z => by have := Rat.intCast_eq_zero_iff.mp z; omega
  rw [Rat.intCast_add, Rat.intCast_mul, Rat.intCast_mul, Rat.intCast_mul]
  grind
theorem rat_cube {x : Rat} {t : Int} : ((x.num * x.num * x.num * t : Int) : Rat) / (((x.den : Int) * x.den * x.den : Int) : Rat) = x * x * x * (t : Rat) := by
  have h0 : (0 : Int) < x.den := rat_dpos
  have e1 : ((x.den : Int) : Rat) ≠ 0 := fun z => by have := Rat.intCast_eq_zero_iff.mp z; omega
  have hx : x = (x.num : Rat) / (((x.den : Nat) : Int) : Rat) := rat_nd
  rw [Rat.intCast_mul, Rat.intCast_mul, Rat.intCast_mul, Rat.intCast_mul, Rat.intCast_mul]
  generalize (x.num : Rat) = u at *
  generalize (((x.den : Nat) : Int) : Rat) = w at *
  subst hx
  grind
section MN6
variable {g : GG} {D D0 D1 : DD} {f p q : Int} {x y : Rat}
theorem mreduce_ok (hf : 0 ≤ f ∧ f < 124) (h : Mp D f p q) (hq : 0 < q) (hq2 : q < MB ^ 99) : CV g M_Mo_reduce [vR 708, vI f] D (fun D' => Mq D' f ((p : Rat) / (q : Rat)) ∧ FM (2 * f) (2 * f + 2) 248 253 D D') := by
  have p0 := h.1.nn
  have hl := rat_low (p := p) hq rfl
  refine CV.intro mc_Mo_reduce (Nat.le_of_ble_eq_true rfl) rfl (s_Mo_reduce_0 ⟨⟨by unfold R32; omega, by omega⟩, fun z => ?_, fun z => ?_⟩)
  · have hp : 0 < p := h.1.pos.mp (by have := h.1.1; omega)
    have g0 := gcdi_pos (x := p) hq
    have gl := gcdi_le (x := p) hq
    have b99 : 2 * MB ^ 99 < MB ^ 100 := by decide +kernel
    refine ⟨⟨by unfold R32; omega, by unfold R32; omega, by unfold R32; omega⟩, (mcom_ok (by omega) (by omega) h.1 h.2 hp hq).mono fun D2 r2 => ?_⟩
    have h2 := h.fm r2.2 (by omega)
    have f2 : FM (2 * f) (2 * f + 2) 248 253 D D2 := r2.2.mono fun m _ _ => by omega
    have go : Sg g M_Mo_reduce (rV (fun D' => Mq D' f ((p : Rat) / (q : Rat)) ∧ FM (2 * f) (2 * f + 2) 248 253 D D')) 59 [vR 708, vI f] [] D2 := by
      refine s_Mo_reduce_59 ⟨by unfold R32; omega, (mdivide_ok (by omega) h2.1 r2.1 g0 (by omega)).mono fun D3 r3 => ?_⟩
      have hg3 := r2.1.fm r3.2 (by omega)
      refine s_Mo_reduce_66 ⟨⟨by unfold R32; omega, by unfold R32; omega⟩, (mdivide_ok (by omega) (h2.2.fm r3.2 (by omega)) hg3 g0 (by omega)).mono fun D4 r4 => s_Mo_reduce_75 (retV ?_)⟩
      refine ⟨⟨?_, ?_⟩, f2.tr (FM.tr (r3.2.mono fun m _ _ => by omega) (r4.2.mono fun m _ _ => by omega))⟩
      · rw [hl.1]; exact r3.1.fm r4.2 (by omega)
      · rw [hl.2]; exact r4.1
    refine s_Mo_reduce_34 ⟨fun _ => go, fun z1 => ⟨fun _ => go, fun z2 => retV ⟨?_, f2⟩⟩⟩
    have g1 : gcdi p q = 1 := by
      rw [← r2.1.2.2.2, z1, show (1 : Int) = 0 + 1 from rfl, Ds_s (Int.le_refl 0), Ds_0]
      have e : MB ^ (0 : Int).toNat = 1 := rfl
      have e2 : mr D2 248 0 = 1 := z2
      rw [e, e2]
      decide
    rw [g1, Int.ediv_one, Int.ediv_one] at hl
    exact ⟨by rw [hl.1]; exact h2.1, by rw [hl.2]; exact h2.2⟩
  · have hp : p = 0 := by rw [← h.1.2.2.2, z, Ds_0]
    subst hp
    refine ⟨⟨by unfold R32; omega, by unfold R32; omega⟩, (mset_ok (by omega) (x := 1) (by decide)).mono fun D2 r2 => s_Mo_reduce_21 (retV ⟨?_, FM.f1 r2.2 (by omega)⟩)⟩
    have e : ((0 : Int) : Rat) / (q : Rat) = 0 := by rw [Rat.intCast_zero, Rat.div_def, Rat.zero_mul]
    rw [e]
    exact ⟨h.1.f1 r2.2 (by omega), r2.1⟩
theorem mtell_ok (hf : 0 ≤ f ∧ f < 124) (hp : 0 ≤ p) (hq : 0 < q) : CV g M_Mo_tell [vR 708, vI f, vL p, vL q] D (fun D' => Mq D' f ((p : Rat) / (q : Rat)) ∧ FM (2 * f) (2 * f + 2) 248 253 D D') := by
  refine CV.intro mc_Mo_tell (Nat.le_of_ble_eq_true rfl) rfl (sg_ok fun h1 _ _ => s_Mo_tell_0 ⟨by unfold R32; omega, (mset_ok (by omega) hp).mono fun D2 r2 => s_Mo_tell_8 ⟨⟨by unfold R32; omega, by unfold R32; omega⟩, (mset_ok (by omega) (by omega)).mono fun D3 r3 => s_Mo_tell_19 ?_⟩⟩)
  have hr : R64 q := h1 (vL q) (List.mem_cons_of_mem _ (List.mem_cons_of_mem _ (List.mem_cons_of_mem _ (List.mem_cons_of_mem _ List.mem_cons_self))))
  refine (mreduce_ok hf ⟨r2.1.f1 r3.2 (by omega), r3.1⟩ hq (Int.lt_of_le_of_lt hr.2 (by decide +kernel))).mono fun D4 r4 => s_Mo_tell_24 (retV ⟨r4.1, ?_⟩)
  exact (FM.f1 r2.2 (by omega)).tr ((FM.f1 r3.2 (by omega)).tr r4.2)
theorem mul49 {a b : Int} (ha : 0 ≤ a ∧ a < MB ^ 49) (hb : 0 ≤ b ∧ b < MB ^ 49) : 0 ≤ a * b ∧ a * b < MB ^ 98 := by
  refine ⟨Int.mul_nonneg ha.1 hb.1, ?_⟩
  have h1 : a * b ≤ (MB ^ 49 - 1) * (MB ^ 49 - 1) := Int.mul_le_mul (by omega) (by omega) hb.1 (by decide +kernel)
  have h2 : (MB ^ 49 - 1) * (MB ^ 49 - 1) < MB ^ 98 := by decide +kernel
  omega
theorem msumUp_ok {p1 q1 p2 q2 : Int} (hs : Mp D 112 p1 q1) (hw : Mp D 111 p2 q2) (hq1 : 0 < q1) (hq2 : 0 < q2) (b1 : p1 < MB ^ 49) (b2 : q1 < MB ^ 49) (b3 : p2 < MB ^ 49) (b4 : q2 < MB ^ 49) : CV g M_Mo_sumUp [vR 708] D (fun D' => Mq D' 112 ((p1 : Rat) / (q1 : Rat) + (p2 : Rat) / (q2 : Rat)) ∧ FM 224 226 244 253 D D') := by
  have n1 := hs.1.nn
  have n2 := hw.1.nn
  have b50 : MB ^ 49 < MB ^ 50 := by decide +kernel
  have m1 := mul49 (a := p1) (b := q2) ⟨n1, b1⟩ ⟨by omega, b4⟩
  have m2 := mul49 (a := p2) (b := q1) ⟨n2, b3⟩ ⟨by omega, b2⟩
  have m3 := mul49 (a := q1) (b := q2) ⟨by omega, b2⟩ ⟨by omega, b4⟩
  have b98 : MB ^ 98 + MB ^ 98 < MB ^ 99 := by decide +kernel
  have b99 : MB ^ 99 < MB ^ 100 := by decide +kernel
  refine CV.intro mc_Mo_sumUp (Nat.le_of_ble_eq_true rfl) rfl (s_Mo_sumUp_0 ((mmul_ok (by decide) (by decide) (by decide) (by decide) (by decide) hs.1 hw.2 (by omega) (by omega)).mono fun D2 r2 => ?_))
  have hs2 := hs.fm r2.2 (by omega)
  have hw2 := hw.fm r2.2 (by omega)
  refine s_Mo_sumUp_13 ((mmul_ok (by decide) (by decide) (by decide) (by decide) (by decide) hw2.1 hs2.2 (by omega) (by omega)).mono fun D3 r3 => ?_)
  refine s_Mo_sumUp_26 ((madd_ok (by decide) (by decide) (by decide) (by decide) (r2.1.f1 r3.2 (by decide)) r3.1 (by omega)).mono fun D4 r4 => ?_)
  have hs4 := (hs2.fm r3.2 (by omega)).fm r4.2 (by omega)
  have hw4 := (hw2.fm r3.2 (by omega)).fm r4.2 (by omega)
  refine s_Mo_sumUp_39 ((mmul_ok (by decide) (by decide) (by decide) (by decide) (by decide) hs4.2 hw4.2 (by omega) (by omega)).mono fun D5 r5 => ?_)
  refine s_Mo_sumUp_52 ((mcopy_ok (by decide) (by decide) (by decide) (r4.1.f1 r5.2 (by decide))).mono fun D6 r6 => ?_)
  refine s_Mo_sumUp_62 ((mcopy_ok (by decide) (by decide) (by decide) (r5.1.f1 r6.2 (by decide))).mono fun D7 r7 => ?_)
  refine s_Mo_sumUp_72 ((mreduce_ok (by decide) (f := 112) ⟨r6.1.f1 r7.2 (by decide), r7.1⟩ (Int.mul_pos hq1 hq2) (by omega)).mono fun D8 r8 => s_Mo_sumUp_78 (retV ?_))
  rw [rat_add hq1 hq2] at r8
  refine ⟨r8.1, ?_⟩
  refine (FM.tr (FM.f1 r2.2 (by omega)) (FM.f1 r3.2 (by omega))).tr ((FM.tr (FM.f1 r4.2 (by omega)) (FM.f1 r5.2 (by omega))).tr ((FM.tr (FM.f1 r6.2 (by omega)) (FM.f1 r7.2 (by omega))).tr ?_))
  exact r8.2.mono fun m _ _ => by omega
theorem mul16 {a : Int} (ha : 0 ≤ a ∧ a < MB ^ 16) : 0 ≤ a * a ∧ a * a < MB ^ 32 ∧ 0 ≤ a * a * a ∧ a * a * a < MB ^ 48 := by
  have m := mul3 (x := a) (B := MB ^ 16 - 1) ha.1 (by omega)
  have e1 : (MB ^ 16 - 1) * (MB ^ 16 - 1) < MB ^ 32 := by decide +kernel
  have e2 : (MB ^ 16 - 1) * (MB ^ 16 - 1) * (MB ^ 16 - 1) < MB ^ 48 := by decide +kernel
  omega
theorem msumCube_ok {t : Int} (hf : 0 ≤ f ∧ f < 111) (hs : Mq D 112 y) (hx : Mq D f x) (ht : 0 ≤ t ∧ t ≤ 200) (b1 : y.num < MB ^ 49) (b2 : (y.den : Int) < MB ^ 49) (b3 : x.num < MB ^ 16) (b4 : (x.den : Int) < MB ^ 16) :
    CV g M_Mo_sumCube [vR 708, vI f, vI t] D (fun D' => Mq D' 112 (y + x * x * x * (t : Rat)) ∧ FM 222 226 244 253 D D') := by
  have n1 := hx.1.nn
  have d0 := den_pos (x := x)
  have m1 := mul16 (a := x.num) ⟨n1, b3⟩
  have m2 := mul16 (a := x.den) ⟨by omega, b4⟩
  have c1 : MB ^ 16 < MB ^ 50 := by decide +kernel
  have c2 : MB ^ 32 < MB ^ 50 := by decide +kernel
  have c3 : MB ^ 48 * 200 < MB ^ 49 := by decide +kernel
  have c4 : MB ^ 48 < MB ^ 49 := by decide +kernel
  have c5 : MB ^ 49 < MB ^ 99 := by decide +kernel
  have c6 : MB ^ 49 < MB ^ 100 := by decide +kernel
  refine CV.intro mc_Mo_sumCube (Nat.le_of_ble_eq_true rfl) rfl (s_Mo_sumCube_0 ⟨⟨by unfold R32; omega, by omega⟩, fun z => ?_, fun z => retV ⟨?_, FM.rf⟩⟩)
  · refine ⟨⟨by unfold R32; omega, by unfold R32; omega⟩, (mmul_ok (by omega) (by omega) (by decide) (by omega) (by omega) hx.1 hx.1 (by omega) (by omega)).mono fun D2 r2 => ?_⟩
    have hx2 := hx.fm r2.2 (by omega)
    refine s_Mo_sumCube_25 ⟨by unfold R32; omega, (mmul_ok (by decide) (by omega) (by decide) (by decide) (by omega) r2.1 hx2.1 (by omega) (by omega)).mono fun D3 r3 => ?_⟩
    have tb : x.num * x.num * x.num * t < MB ^ 49 := by
      have : x.num * x.num * x.num * t ≤ MB ^ 48 * 200 := Int.mul_le_mul (by omega) ht.2 ht.1 (by decide +kernel)
      omega
    refine s_Mo_sumCube_38 ((mtimes_ok (by decide) r3.1 ht.1 (by omega)).mono fun D4 r4 => ?_)
    have hx4 := (hx2.fm r3.2 (by omega)).fm r4.2 (by omega)
    refine s_Mo_sumCube_46 ⟨⟨by unfold R32; omega, by unfold R32; omega, by unfold R32; omega, by unfold R32; omega⟩, (mmul_ok (by omega) (by omega) (by decide) (by omega) (by omega) hx4.2 hx4.2 (by omega) (by omega)).mono fun D5 r5 => ?_⟩
    have hx5 := hx4.fm r5.2 (by omega)
    refine s_Mo_sumCube_63 ⟨⟨by unfold R32; omega, by unfold R32; omega⟩, (mmul_ok (by decide) (by omega) (by decide) (by decide) (by omega) r5.1 hx5.2 (by omega) (by omega)).mono fun D6 r6 => ?_⟩
    have hw6 : Mp D6 111 (x.num * x.num * x.num * t) ((x.den : Int) * x.den * x.den) := ⟨(r4.1.f1 r5.2 (by decide)).f1 r6.2 (by decide), r6.1⟩
    have cpos : 0 < (x.den : Int) * x.den * x.den := Int.mul_pos (Int.mul_pos d0 d0) d0
    have ll := low_le (p := x.num * x.num * x.num * t) (q := (x.den : Int) * x.den * x.den) hw6.1.nn cpos
    refine s_Mo_sumCube_78 ((mreduce_ok (by decide) hw6 cpos (by omega)).mono fun D7 r7 => ?_)
    have hs7 : Mq D7 112 y := (((((hs.fm r2.2 (by omega)).fm r3.2 (by omega)).fm r4.2 (by omega)).fm r5.2 (by omega)).fm r6.2 (by omega)).fm r7.2 (by omega)
    refine s_Mo_sumCube_84 ((msumUp_ok hs7 r7.1 den_pos den_pos b1 b2 (by omega) (by omega)).mono fun D8 r8 => s_Mo_sumCube_88 (retV ?_))
    rw [← rat_nd, ← rat_nd, rat_cube] at r8
    refine ⟨r8.1, ?_⟩
    refine (FM.tr (FM.f1 r2.2 (by omega)) (FM.f1 r3.2 (by omega))).tr ((FM.tr (FM.f1 r4.2 (by omega)) (FM.f1 r5.2 (by omega))).tr (((FM.f1 r6.2 (by omega))).tr (FM.tr (D' := D7) ?_ ?_)))
    · exact r7.2.mono fun m _ _ => by omega
    · exact r8.2.mono fun m _ _ => by omega
  · have hx0 : x = 0 := by
      have : x.num = 0 := by rw [← hx.1.2.2.2, z, Ds_0]
      exact Rat.num_eq_zero.mp this
    rw [hx0, Rat.zero_mul, Rat.zero_mul, Rat.zero_mul, Rat.add_zero]
    exact hs
theorem mkeep_ok {h : Int} (hf : 0 ≤ f ∧ f < 125) (hh : 0 ≤ h ∧ h < 125) (hfh : f ≠ h) (hx : Mp D f p q) : CV g M_Mo_keep [vR 708, vI f, vI h] D (fun D' => Mp D' h p q ∧ FM (2 * h) (2 * h + 2) (2 * h) (2 * h + 2) D D') := by
  refine CV.intro mc_Mo_keep (Nat.le_of_ble_eq_true rfl) rfl (s_Mo_keep_0 ⟨⟨by unfold R32; omega, by unfold R32; omega⟩, (mcopy_ok (by omega) (by omega) (by omega) hx.1).mono fun D2 r2 => s_Mo_keep_10 ⟨⟨by unfold R32; omega, by unfold R32; omega, by unfold R32; omega, by unfold R32; omega⟩, (mcopy_ok (by omega) (by omega) (by omega) (hx.2.f1 r2.2 (by omega))).mono fun D3 r3 => s_Mo_keep_24 (retV ?_)⟩⟩)
  exact ⟨⟨r2.1.f1 r3.2 (by omega), r3.1⟩, (FM.f1 r2.2 (by omega)).tr (FM.f1 r3.2 (by omega))⟩
theorem mSame_ok {h : Int} (hf : 0 ≤ f ∧ f < 125) (hh : 0 ≤ h ∧ h < 125) (hx : Mq D f x) (hy : Mq D h y) : CI g M_Mo_isSame [vR 708, vI f, vI h] D (fun r D' => D' = D ∧ r = if x = y then 1 else 0) := by
  have e : ∀ v w : Int, scmp v w = 0 ↔ v = w := by
    intro v w
    unfold scmp
    split
    · omega
    · split <;> omega
  refine CI.intro mc_Mo_isSame (Nat.le_of_ble_eq_true rfl) rfl (s_Mo_isSame_0 ⟨⟨by unfold R32; omega, by unfold R32; omega⟩, (morder_ok (by omega) (by omega) hx.1 hy.1).mono fun v D' r => ?_⟩)
  obtain ⟨rfl, rfl⟩ := r
  refine s_Mo_isSame_10 ⟨fun z => retI ⟨rfl, ?_⟩, fun z => ⟨⟨by unfold R32; omega, by unfold R32; omega, by unfold R32; omega, by unfold R32; omega⟩, (morder_ok (by omega) (by omega) hx.2 hy.2).mono fun v D' r => ?_⟩⟩
  · rw [e] at z
    rw [if_neg (fun q => z (by rw [q]))]
  · obtain ⟨rfl, rfl⟩ := r
    rw [e] at z
    refine s_Mo_isSame_27 ⟨fun z2 => retI ⟨rfl, ?_⟩, fun z2 => retI ⟨rfl, ?_⟩⟩
    · rw [e] at z2
      rw [if_neg (fun q => z2 (by rw [q]))]
    · rw [e] at z2
      rw [if_pos (rat_eq_iff.mp ⟨z, z2⟩)]
end MN6
