/-! the Reckoner: orderOfWork, doesEnough, doesJust -/
theorem work_rat {D : DD} {n : Nat} {r : Nat → Rat} {C w : Int} {ln : Nat → Int} (h : Sh D n r C) : scmp (si (fun j => shr r C j * ln j) n) (C * w) = rcmp (su (fun j => r j * (ln j : Rat)) n) (w : Rat) := by
  have hC0 := h.2.1
  have hC : (0 : Rat) < (C : Rat) := Rat.intCast_pos.mpr hC0
  have e1 : ((si (fun j => shr r C j * ln j) n : Int) : Rat) = su (fun j => r j * (ln j : Rat)) n * (C : Rat) := by
    rw [si_rat, ← su_mul]
    exact su_congr fun j hj => by
      rw [Rat.intCast_mul, shr_rat h hj]
      grind
  have e2 : ((C * w : Int) : Rat) = (w : Rat) * (C : Rat) := by
    rw [Rat.intCast_mul, Rat.mul_comm]
  have k1 : si (fun j => shr r C j * ln j) n < C * w ↔ su (fun j => r j * (ln j : Rat)) n < (w : Rat) := by
    rw [← Rat.intCast_lt_intCast, e1, e2, Rat.mul_lt_mul_right hC]
  have k2 : C * w < si (fun j => shr r C j * ln j) n ↔ (w : Rat) < su (fun j => r j * (ln j : Rat)) n := by
    rw [← Rat.intCast_lt_intCast, e1, e2, Rat.mul_lt_mul_right hC]
  unfold scmp rcmp
  simp only [k1, k2]
section RE3
variable {g : GG} {D : DD} {a : Nat}
def lnw (D : DD) (a : Nat) (u v : Int) (j : Nat) : Int := max 0 (min (D (a + 2) j) v - max (D (a + 1) j) u)
theorem order_loop2 (k : zk a = (0, 5, 0)) {n : Nat} {r : Nat → Rat} {C u v w : Int} (hp : Pf D a n r) (hb : ∀ i : Nat, i < n → (0 ≤ D (a + 1) i ∧ D (a + 1) i ≤ 200) ∧ (0 ≤ D (a + 2) i ∧ D (a + 2) i ≤ 200)) (hu : 0 ≤ u ∧ u ≤ 200) (hv : 0 ≤ v ∧ v ≤ 200) (hw : 0 ≤ w ∧ w ≤ 12000) (hr : ∀ i, i < n → r i ≤ 12000) (hC : C < 2 ^ 140) : ∀ (m i : Nat) (D1 : DD) (z : VV), i + m = n → FR 391 457 391 457 D D1 → Sh D1 n r C → Na D1 404 (si (fun j => shr r C j * lnw D a u v j) i) →
    Sg g M_Re_orderOfWork (rI (fun x D' => x = rcmp (su (fun j => r j * (lnw D a u v j : Rat)) n) (w : Rat) ∧ Sh D' n r C ∧ FR 391 457 391 457 D D')) 11 [vR 391, vR a, vI u, vI v, vI w, vI i, z] [] D1 := by
  have pa := pr_at k
  have hn := hp.2.1
  have lnb : ∀ j, j < n → 0 ≤ lnw D a u v j ∧ lnw D a u v j ≤ 200 := fun j hj => by
    have := hb j hj
    unfold lnw
    omega
  have sbd : ∀ (D1 : DD) (i : Nat), Sh D1 n r C → i < n → 0 ≤ shr r C i * lnw D a u v i ∧ shr r C i * lnw D a u v i ≤ 2 ^ 162 := by
    intro D1 i hs hi
    have b := shr_bd hs hr hC hi
    have l := lnb i hi
    refine ⟨Int.mul_nonneg b.1 l.1, ?_⟩
    have e1 : shr r C i * lnw D a u v i ≤ 2 ^ 154 * 200 := Int.mul_le_mul b.2 l.2 l.1 (by decide)
    have e2 : (2 : Int) ^ 154 * 200 < 2 ^ 162 := by decide
    omega
  have ssum : ∀ (D1 : DD) (i : Nat), Sh D1 n r C → i ≤ n → si (fun j => shr r C j * lnw D a u v j) i < 2 ^ 170 := by
    intro D1 i hs hi
    have e1 := si_le (n := i) (B := 2 ^ 162) (fun j hj => (sbd D1 j hs (by omega)).2)
    have e2 : (i : Int) * 2 ^ 162 ≤ 24 * 2 ^ 162 := Int.mul_le_mul_of_nonneg_right (by omega) (by decide)
    have e3 : 24 * (2 : Int) ^ 162 < 2 ^ 170 := by decide
    omega
  have bb2 : (2 : Int) ^ 170 < BB ^ 32 := by decide
  have bb3 : (2 : Int) ^ 162 < BB ^ 32 := by decide
  intro m
  induction m with
  | zero =>
    intro i D1 z hm hf hs hsum
    have hp1 := hp.rk k hf
    have e := hp1.1
    obtain rfl : i = n := by omega
    refine s_Re_orderOfWork_11 k ⟨fun _ => (copyFrom_ok (a := 402) (b := 406) rfl rfl hs.1).mono fun D2 r2 => ?_, fun z => by omega⟩
    have cw : C * w ≤ 2 ^ 140 * 12000 := Int.mul_le_mul (by omega) hw.2 hw.1 (by decide)
    have cb : (2 : Int) ^ 140 * 12000 < BB ^ 32 := by decide
    have s2 := hs.rk2 hn (lo := 400) (hi := 406) (FR.fa r2.2 (by omega)) (by omega)
    refine s_Re_orderOfWork_86 ((times_ok rfl r2.1 hw.1 (by omega)).mono fun D3 r3 => ?_)
    have s3 := s2.rk2 hn (lo := 400) (hi := 406) (FR.fa r3.2 (by omega)) (by omega)
    refine s_Re_orderOfWork_95 ((order_ok (a := 404) (b := 402) rfl rfl ((hsum.fa r2.2 rfl rfl (by decide)).fa r3.2 rfl rfl (by decide)) r3.1).mono fun y D4 r4 => ?_)
    obtain ⟨rfl, rfl⟩ := r4
    exact s_Re_orderOfWork_106 (retI ⟨work_rat s3, s3, hf.tr ((FR.fa r2.2 (by omega)).tr (FR.fa r3.2 (by omega)))⟩)
  | succ m ih =>
    intro i D1 z hm hf hs hsum
    have hp1 := hp.rk k hf
    have e := hp1.1
    have hi : i < n := by omega
    have b := hb i hi
    have e1 : D1 (a + 1) = D (a + 1) := hf (a + 1) (by omega) (by omega)
    have e2 : D1 (a + 2) = D (a + 2) := hf (a + 2) (by omega) (by omega)
    have kn := zk_share (i := i) (by omega)
    have ss := ssum D1 (i + 1) hs (by omega)
    have s3 := sbd D1 i hs hi
    have l := lnb i hi
    have es : si (fun j => shr r C j * lnw D a u v j) (i + 1) = si (fun j => shr r C j * lnw D a u v j) i + shr r C i * lnw D a u v i := rfl
    refine s_Re_orderOfWork_11 k ⟨fun z => by omega, fun _ => (lengthWithin_ok k hp1 hi (by rw [e1]; exact b.1) (by rw [e2]; exact b.2) hu hv).mono fun y D2 r2 => ?_⟩
    obtain ⟨rfl, hy⟩ := r2
    have hy : y = lnw D a u v i := by rw [hy, e1, e2]; rfl
    refine s_Re_orderOfWork_28 k ⟨fun y0 => ?_, fun y0 => ⟨by omega, ?_⟩⟩
    · have l0 : lnw D a u v i = 0 := by omega
      refine s_Re_orderOfWork_69 k ⟨by unfold R32; omega, ih (i + 1) D2 _ (by omega) hf hs ?_⟩
      rw [es, l0, Int.mul_zero, Int.add_zero]
      exact hsum
    · rw [Int.toNat_natCast]
      have hS : Na D2 (409 + 2 * i) (shr r C i) := hs.2.2.2 i hi
      refine (copyFrom_ok (a := 402) rfl kn hS).mono fun D3 r3 => ?_
      have s3 := hs.rk2 hn (lo := 400) (hi := 406) (FR.fa r3.2 (by omega)) (by omega)
      rw [hy]
      refine s_Re_orderOfWork_49 k ((times_ok rfl r3.1 l.1 (by omega)).mono fun D4 r4 => ?_)
      have s4 := s3.rk2 hn (lo := 400) (hi := 406) (FR.fa r4.2 (by omega)) (by omega)
      refine s_Re_orderOfWork_58 k ((add_ok (a := 404) (b := 402) rfl rfl (by decide) ((hsum.fa r3.2 rfl rfl (by decide)).fa r4.2 rfl rfl (by decide)) r4.1 (by omega)).mono fun D5 r5 => ?_)
      refine s_Re_orderOfWork_69 k ⟨by unfold R32; omega, ih (i + 1) D5 _ (by omega) (hf.tr ((FR.fa r3.2 (by omega)).tr ((FR.fa r4.2 (by omega)).tr (FR.fa r5.2 (by omega))))) ?_ r5.1⟩
      exact s4.rk2 hn (lo := 400) (hi := 406) (FR.fa r5.2 (by omega)) (by omega)
theorem orderOfWork_ok (k : zk a = (0, 5, 0)) {n : Nat} {r : Nat → Rat} {C u v w : Int} (hp : Pf D a n r) (hb : ∀ i : Nat, i < n → (0 ≤ D (a + 1) i ∧ D (a + 1) i ≤ 200) ∧ (0 ≤ D (a + 2) i ∧ D (a + 2) i ≤ 200)) (hu : 0 ≤ u ∧ u ≤ 200) (hv : 0 ≤ v ∧ v ≤ 200) (hw : 0 ≤ w ∧ w ≤ 12000) (hr : ∀ i, i < n → r i ≤ 12000) (hC : C < 2 ^ 140) (hs : Sh D n r C) :
    CI g M_Re_orderOfWork [vR 391, vR a, vI u, vI v, vI w] D (fun x D' => x = rcmp (su (fun j => r j * (lnw D a u v j : Rat)) n) (w : Rat) ∧ Sh D' n r C ∧ FR 391 457 391 457 D D') := by
  have pa := pr_at k
  refine CI.intro mc_Re_orderOfWork (Nat.le_of_ble_eq_true rfl) rfl (s_Re_orderOfWork_0 k ((setSmall_ok (a := 404) rfl (x := 0) (by decide)).mono fun D2 r2 => s_Re_orderOfWork_8 k ?_))
  have f2 : FR 391 457 391 457 D D2 := FR.fa r2.2 (by omega)
  have hs2 := hs.rk2 hp.2.1 (lo := 400) (hi := 406) (FR.fa r2.2 (by omega)) (by omega)
  exact order_loop2 k hp hb hu hv hw hr hC n 0 D2 _ (by omega) f2 hs2 r2.1
theorem doesEnough_ok (k : zk a = (0, 5, 0)) {n : Nat} {r : Nat → Rat} {C u v w : Int} (hp : Pf D a n r) (hb : ∀ i : Nat, i < n → (0 ≤ D (a + 1) i ∧ D (a + 1) i ≤ 200) ∧ (0 ≤ D (a + 2) i ∧ D (a + 2) i ≤ 200)) (hu : 0 ≤ u ∧ u ≤ 200) (hv : 0 ≤ v ∧ v ≤ 200) (hw : 0 ≤ w ∧ w ≤ 12000) (hr : ∀ i, i < n → r i ≤ 12000) (hC : C < 2 ^ 140) (hs : Sh D n r C)
    (hge : (w : Rat) ≤ su (fun j => r j * (lnw D a u v j : Rat)) n) :
    CI g M_Re_doesEnough [vR 391, vR a, vI u, vI v, vI w] D (fun x D' => x = 1 ∧ Sh D' n r C ∧ FR 391 457 391 457 D D') := by
  refine CI.intro mc_Re_doesEnough (Nat.le_of_ble_eq_true rfl) rfl (s_Re_doesEnough_0 k ((orderOfWork_ok k hp hb hu hv hw hr hC hs).mono fun y D2 r2 => s_Re_doesEnough_9 ⟨fun z => ?_, fun _ => retI ⟨rfl, r2.2⟩⟩))
  rw [r2.1] at z
  unfold rcmp at z
  rw [if_neg (Rat.not_lt.mpr hge)] at z
  split at z <;> omega
theorem doesJust_ok (k : zk a = (0, 5, 0)) {n : Nat} {r : Nat → Rat} {C w : Int} (hp : Pf D a n r) (hb : ∀ i : Nat, i < n → (0 ≤ D (a + 1) i ∧ D (a + 1) i ≤ 200) ∧ (0 ≤ D (a + 2) i ∧ D (a + 2) i ≤ 200)) (hw : 0 ≤ w ∧ w ≤ 12000) (hr : ∀ i, i < n → r i ≤ 12000) (hC : C < 2 ^ 140) (hs : Sh D n r C)
    (hge : (w : Rat) = su (fun j => r j * (lnw D a 0 200 j : Rat)) n) :
    CI g M_Re_doesJust [vR 391, vR a, vI w] D (fun x D' => x = 1 ∧ Sh D' n r C ∧ FR 391 457 391 457 D D') := by
  refine CI.intro mc_Re_doesJust (Nat.le_of_ble_eq_true rfl) rfl (s_Re_doesJust_0 k ((orderOfWork_ok k hp hb (by omega) (by omega) hw hr hC hs).mono fun y D2 r2 => s_Re_doesJust_10 ⟨fun z => ?_, fun _ => retI ⟨rfl, r2.2⟩⟩))
  rw [r2.1, hge] at z
  unfold rcmp at z
  rw [if_neg Rat.lt_irrefl, if_neg Rat.lt_irrefl] at z
  omega
end RE3
