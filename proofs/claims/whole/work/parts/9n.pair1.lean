/-! class and model, call by call: print, compare, character, levelOf, working, about, clear -/
section PAIR1
variable {g : GG} {D D' : DD} {a b c e : Int}
theorem Mn.one {m v : Int} (h : Mn D m v) : (D 710 m = 1 ∧ D 709 (100 * m) = 1) ↔ v = 1 := by
  have d1 : mr D m 0 = D 709 (100 * m) := by unfold mr; rw [show 100 * m + 0 = 100 * m by omega]
  have s1 : D 710 m = 1 → v = D 709 (100 * m) := fun q => by
    have := h.2.2.2
    rw [q, show (1 : Int) = 0 + 1 by omega, Ds_s (Int.le_refl 0), Ds_0, d1] at this
    rw [← this]
    have : MB ^ (0 : Int).toNat = 1 := by decide
    rw [this]; omega
  constructor
  · rintro ⟨q1, q2⟩
    rw [s1 q1, q2]
  · intro hv
    have s0 := h.1
    have p := h.pos
    have e1 : D 710 m = 1 := by
      refine Decidable.byContradiction fun z => ?_
      rcases h.2.2.1 with y | y
      · omega
      · obtain ⟨k, hk⟩ : ∃ k, (D 710 m - 1).toNat = k + 1 := ⟨(D 710 m - 1).toNat - 1, by omega⟩
        rw [hk, Int.pow_succ] at y
        have p1 : 0 < MB ^ k := Int.pow_pos MB_pos
        have b2 : 1 * MB ≤ MB ^ k * MB := Int.mul_le_mul_of_nonneg_right (by omega) (Int.le_of_lt MB_pos)
        have : MB = 16777216 := by decide
        omega
    exact ⟨e1, by rw [← s1 e1, hv]⟩
theorem pr_print (h : INV D) : CI g M_Ke_print [vR 0, vI a, vI b] D (fun v D1 => CI g M_Mo_print [vR 708, vI a, vI b] D1 (fun v' D2 => v' = v ∧ INV D2)) := by
  obtain ⟨t0, n, r, d, w, pl, lv, rt, ct, i1, i2, i3, i4, i5⟩ := h.inc
  have h3 : D 708 3 = n := i1.2.2.1.1
  refine CI.intro mc_Ke_print (Nat.le_of_ble_eq_true rfl) rfl (s_Ke_print_0 ?_)
  rcases frac_all (g := g) (i := b) i1.1 i1.2.1 h3 i2 i3 i4 a with ⟨kf, mf⟩ | ⟨ad, f, y, z, za, y1, y2, hf, bd, kf, mf⟩
  · refine kf.mono fun o D1 r1 => ?_
    obtain ⟨rfl, rfl⟩ := r1
    refine s_Ke_print_6b (retI (CI.intro mc_Mo_print (Nat.le_of_ble_eq_true rfl) rfl (s_Mo_print_0 fun D2 e2 => ?_)))
    refine (mf D2 ⟨fun c hc => by rw [e2, zw_off (by omega)], fun k hk => by rw [e2, zw_ne (Or.inr hk)]⟩).mono fun v D3 r3 => ?_
    obtain ⟨rfl, rfl⟩ := r3
    refine s_Mo_print_11 ⟨fun q => by omega, fun _ => retI ⟨rfl, ?_⟩⟩
    rw [e2]; exact h.w0
  · refine kf.mono fun o D1 r1 => ?_
    obtain ⟨rfl, rfl⟩ := r1
    refine s_Ke_print_6 z ((write_ok z (by omega) y1 bd.1 bd.2).mono fun v D2 r2 => s_Ke_print_21 (retI ?_))
    obtain ⟨rfl, x2, x3, x4, x5⟩ := r2
    refine CI.intro mc_Mo_print (Nat.le_of_ble_eq_true rfl) rfl (s_Mo_print_0 fun D3 e3 => ?_)
    refine (mf D3 ⟨fun c hc => by rw [e3, zw_off (by omega), x5 c (by omega)], fun k hk => by rw [e3, zw_ne (Or.inr hk), x5 708 (by omega)]⟩).mono fun v D4 r4 => ?_
    obtain ⟨rfl, rfl⟩ := r4
    refine s_Mo_print_11 ⟨fun _ D5 e5 => ⟨by unfold R32; omega, ?_⟩, fun q => by omega⟩
    have o5 : ∀ c, c ≠ 708 → D5 c = D2 c := fun c hc => by rw [e5, zw_off hc, e3, zw_off hc]
    have m5 : Mq D5 v y := y2.off (by rw [o5 709 (by omega), x5 709 (by omega)]) (by rw [o5 710 (by omega), x5 710 (by omega)])
    have k5 : KP D1 D5 := by
      refine KP.tr ⟨fun c hc => x5 c (by omega), fun k _ _ => by rw [x5 708 (by omega)], RK.off (x5 709 (by omega)) (x5 710 (by omega))⟩ ?_
      rw [e5]
      refine KP.tr (D' := D4) ?_ (KP.w0 (Or.inr rfl))
      rw [e3]; exact KP.w0 (Or.inl rfl)
    refine (printNumber_ok (n := 2 * v) (by omega) m5.1 bd.1 (p := 0) (by omega) (by rw [e5, zw_eq])).mono fun D6 r6 => ?_
    obtain ⟨k1, a1, a2, a3, a4, a5⟩ := r6
    have m6 : Mn D6 (2 * v + 1) ((y.den : Nat) : Int) := m5.2.rw a5.2.2.2 (by omega)
    have k6 : KP D1 D6 := k5.tr ⟨fun c hc => a5.1 c (by omega) (by omega) (by omega) (by omega), fun k _ k2 => a5.2.1 k k2, a5.2.2.2.rk fun m hm => by unfold rows0 at hm; omega⟩
    have on := m6.one
    have s6 := m6.1
    have c6 : ∀ c, 703 ≤ c → c < 708 → D6 c = D2 c := fun c c1 c2 => by rw [a5.1 c (by omega) (by omega) (by omega) (by omega), o5 c (by omega)]
    have fin : ∀ D7, KP D6 D7 → D7 703 = D2 703 → D7 704 = D2 704 → TX (D7 733) (D7 708 33) y → D7 708 33 = D2 703 1 ∧ INV D7 := fun D7 k7 u1 u2 tx => by
      have s := TX.same x2 tx
      refine ⟨s.1.symm, h.kp (k6.tr k7) fun _ => ⟨D2 703 1, by rw [u1], s.1.symm, x3, by omega, fun i hi => by rw [u2]; exact s.2 i hi⟩⟩
    have one : y.den = 1 → D6 708 33 = D2 703 1 ∧ INV D6 := fun q => fin D6 KP.rf (c6 _ (by omega) (by omega)) (c6 _ (by omega) (by omega)) ⟨k1, a1, a4, Or.inl ⟨q, by omega⟩⟩
    have two : y.den ≠ 1 → Sg g M_Mo_print (rI (fun v' D2' => v' = D2 703 1 ∧ INV D2')) 61 [vR 708, vU, vU, vI v] [] D6 := fun q => by
      refine s_Mo_print_61 ⟨by omega, fun D7 e7 => ⟨by rw [e7, zw_off (by omega)]; unfold R32; omega, fun D8 e8 => ⟨by unfold R32; omega, ?_⟩⟩⟩
      have l7 : D7 708 33 = k1 := by rw [e7, zw_off (by omega)]; omega
      rw [l7] at e8
      have o8 : ∀ c, c ≠ 708 → c ≠ 733 → D8 c = D6 c := fun c h1 h2 => by rw [e8, zw_off h1, e7, zw_off h2]
      have v8 : ∀ k : Int, k ≠ 33 → D8 708 k = D6 708 k := fun k hk => by rw [e8, zw_ne (Or.inr hk), e7, zw_off (by omega)]
      have m8 : Mn D8 (2 * v + 1) ((y.den : Nat) : Int) := m6.of (by rw [o8 710 (by omega) (by omega)]) fun j _ _ => by unfold mr; rw [o8 709 (by omega) (by omega)]
      refine (printNumber_ok (n := 2 * v + 1) (by omega) m8 bd.2 (p := (k1 : Int) + 1) (by omega) (by rw [e8, zw_eq])).mono fun D9 r9 => s_Mo_print_91 (retI ?_)
      obtain ⟨k2, b1, b2, b3, b4, b5⟩ := r9
      refine fin D9 ⟨fun c hc => by rw [b5.1 c (by omega) (by omega) (by omega) (by omega), o8 c (by omega) (by omega)], fun k k1 k2 => by rw [b5.2.1 k k2, v8 k k2], RK.tr (RK.off (o8 709 (by omega) (by omega)) (o8 710 (by omega) (by omega))) (b5.2.2.2.rk fun m hm => by unfold rows0 at hm; omega)⟩ ?_ ?_ ⟨k1, a1, a4.of fun i hi => ?_, Or.inr ⟨q, ?_, k2, b1, b4, by omega⟩⟩
      · rw [b5.1 703 (by omega) (by omega) (by omega) (by omega), o8 703 (by omega) (by omega), c6 703 (by omega) (by omega)]
      · rw [b5.1 704 (by omega) (by omega) (by omega) (by omega), o8 704 (by omega) (by omega), c6 704 (by omega) (by omega)]
      · rw [b5.2.2.1 _ (by omega), e8, zw_off (by omega), e7, zw_ne (Or.inr (by omega))]
      · rw [b5.2.2.1 _ (by omega), e8, zw_off (by omega), e7, a3, Int.zero_add, zw_eq]
    refine s_Mo_print_30 ⟨⟨by unfold R32; omega, by unfold R32; omega, by omega⟩, fun q => two fun z => ?_, fun q1 => ⟨⟨by unfold R32; omega, by unfold R32; omega, by unfold R32; omega, by omega⟩, fun q2 => s_Mo_print_91 (retI (one ?_)), fun q2 => two fun z => ?_⟩⟩
    · exact q (on.mpr (by omega)).1
    · have := on.mp ⟨q1, q2⟩
      omega
    · exact q2 (on.mpr (by omega)).2
theorem bnd_mul {x y : Rat} (h : bnd x) (h' : bnd y) (hx : 0 ≤ x.num) : x.num * ((y.den : Nat) : Int) < BB ^ 32 := by
  have b1 : (2 : Int) ^ 475 * 2 ^ 475 < BB ^ 32 := by decide +kernel
  have m : x.num * ((y.den : Nat) : Int) ≤ 2 ^ 475 * 2 ^ 475 := Int.mul_le_mul (by have := h.1; omega) (by have := h'.2; omega) (by omega) (by decide)
  omega
theorem cmp_rat {x y : Rat} : rcmp x y = scmp (x.num * ((y.den : Nat) : Int)) (y.num * ((x.den : Nat) : Int)) := by
  have e1 := Rat.lt_iff x y
  have e2 := Rat.lt_iff y x
  unfold rcmp scmp
  by_cases h1 : x < y
  · rw [if_pos h1, if_pos (e1.mp h1)]
  · rw [if_neg h1, if_neg (fun q => h1 (e1.mpr q))]
    by_cases h2 : y < x
    · rw [if_pos h2, if_pos (e2.mp h2)]
    · rw [if_neg h2, if_neg (fun q => h2 (e2.mpr q))]
theorem pr_compare (h : INV D) : CI g M_Ke_compare [vR 0, vI a, vI b, vI c, vI e] D (fun v D1 => CI g M_Mo_compare [vR 708, vI a, vI b, vI c, vI e] D1 (fun v' D2 => v' = v ∧ INV D2)) := by
  obtain ⟨t0, n, r, d, w, pl, lv, rt, ct, i1, i2, i3, i4, i5⟩ := h.inc
  have h3 : D 708 3 = n := i1.2.2.1.1
  have f1 := frac_all (g := g) (i := b) i1.1 i1.2.1 h3 i2 i3 i4 a
  have f2 := frac_all (g := g) (i := e) i1.1 i1.2.1 h3 i2 i3 i4 c
  -- none on one side
  have go : ∀ v1 v2 : Int, MF g D a b v1 → MF g D c e v2 → (v1 < 0 ∨ v2 < 0) → CI g M_Mo_compare [vR 708, vI a, vI b, vI c, vI e] D (fun v' D2 => v' = -2 ∧ INV D2) := fun v1 v2 m1 m2 q => by
    refine CI.intro mc_Mo_compare (Nat.le_of_ble_eq_true rfl) rfl (s_Mo_compare_0 fun D2 e2 => ?_)
    have me : MEQ D D2 := ⟨fun c hc => by rw [e2, zw_off (by omega)], fun k hk => by rw [e2, zw_ne (Or.inr hk)]⟩
    refine (m1 D2 me).mono fun v D3 r3 => ?_
    obtain ⟨rfl, rfl⟩ := r3
    refine s_Mo_compare_11 ((m2 D3 me).mono fun v' D4 r4 => ?_)
    obtain ⟨rfl, rfl⟩ := r4
    have hi : INV D4 := by rw [e2]; exact h.w0
    exact s_Mo_compare_20 ⟨fun _ => retI ⟨rfl, hi⟩, fun _ => ⟨fun _ => by omega, fun _ => retI ⟨rfl, hi⟩⟩⟩
  refine CI.intro mc_Ke_compare (Nat.le_of_ble_eq_true rfl) rfl (s_Ke_compare_0 ?_)
  rcases f1 with ⟨kf, mf⟩ | ⟨ad, f, y, z, za, y1, y2, hf, bd, kf, mf⟩
  · refine kf.mono fun o D1 r1 => ?_
    obtain ⟨rfl, rfl⟩ := r1
    rcases f2 with ⟨kf', mf'⟩ | ⟨ad', f', y', z', za', y1', y2', hf', bd', kf', mf'⟩
    · refine s_Ke_compare_6b (kf'.mono fun o D2 r2 => ?_)
      obtain ⟨rfl, rfl⟩ := r2
      exact s_Ke_compare_15d (retI (go _ _ mf mf' (Or.inl (by omega))))
    · refine s_Ke_compare_6b (kf'.mono fun o D2 r2 => ?_)
      obtain ⟨rfl, rfl⟩ := r2
      exact s_Ke_compare_15c z' (retI (go _ _ mf mf' (Or.inl (by omega))))
  · refine kf.mono fun o D1 r1 => ?_
    obtain ⟨rfl, rfl⟩ := r1
    rcases f2 with ⟨kf', mf'⟩ | ⟨ad', f', y', z', za', y1', y2', hf', bd', kf', mf'⟩
    · refine s_Ke_compare_6 z (kf'.mono fun o D2 r2 => ?_)
      obtain ⟨rfl, rfl⟩ := r2
      exact s_Ke_compare_15b z (retI (go _ _ mf mf' (Or.inr (by omega))))
    · refine s_Ke_compare_6 z (kf'.mono fun o D2 r2 => ?_)
      obtain ⟨rfl, rfl⟩ := r2
      have ny := Rat.num_nonneg.mpr y1.nn
      have ny' := Rat.num_nonneg.mpr y1'.nn
      have p1 := bnd_mul bd bd' ny
      have p2 := bnd_mul bd' bd ny'
      refine s_Ke_compare_15 z z' ((reOrder_ok z z' y1 y1' p1 p2).mono fun v D3 r3 => s_Ke_compare_41 (retI ?_))
      obtain ⟨rfl, F3⟩ := r3
      refine CI.intro mc_Mo_compare (Nat.le_of_ble_eq_true rfl) rfl (s_Mo_compare_0 fun D4 e4 => ?_)
      have me : MEQ D2 D4 := ⟨fun c hc => by rw [e4, zw_off (by omega), F3 c (by omega) (by omega)], fun k hk => by rw [e4, zw_ne (Or.inr hk), F3 708 (by omega) (by omega)]⟩
      refine (mf D4 me).mono fun v D5 r5 => ?_
      obtain ⟨rfl, rfl⟩ := r5
      refine s_Mo_compare_11 ((mf' D5 me).mono fun v' D6 r6 => ?_)
      obtain ⟨rfl, rfl⟩ := r6
      have mb : (2 : Int) ^ 475 < MB ^ 50 := by decide +kernel
      have q1 : Mq D6 v y := y2.off (me.1 709 (by omega)) (me.1 710 (by omega))
      have q2 : Mq D6 v' y' := y2'.off (me.1 709 (by omega)) (me.1 710 (by omega))
      have bd1 := bd.1
      have bd2 := bd.2
      have bd3 := bd'.1
      have bd4 := bd'.2
      refine s_Mo_compare_20 ⟨fun q => by omega, fun _ => ⟨fun _ => ⟨⟨by unfold R32; omega, by unfold R32; omega, by unfold R32; omega⟩, ?_⟩, fun q => by omega⟩⟩
      refine (mmul_ok (a := 2 * v) (b := 2 * v' + 1) (t := 244) (by omega) (by omega) (by omega) (by omega) (by omega) q1.1 q2.2 (by omega) (by omega)).mono fun D7 r7 => ?_
      obtain ⟨c1, c2⟩ := r7
      refine s_Mo_compare_52 ⟨⟨by unfold R32; omega, by unfold R32; omega, by unfold R32; omega⟩, ?_⟩
      refine (mmul_ok (a := 2 * v') (b := 2 * v + 1) (t := 245) (by omega) (by omega) (by omega) (by omega) (by omega) (q2.1.f1 c2 (by omega)) (q1.2.f1 c2 (by omega)) (by omega) (by omega)).mono fun D8 r8 => ?_
      obtain ⟨c3, c4⟩ := r8
      refine s_Mo_compare_69 ((morder_ok (a := 244) (b := 245) (by omega) (by omega) (c1.f1 c4 (by omega)) c3).mono fun v2 D9 r9 => ?_)
      obtain ⟨rfl, rfl⟩ := r9
      refine s_Mo_compare_79 (retI ⟨cmp_rat.symm, ?_⟩)
      have k4 : KP D2 D6 := (KP.fr F3).tr (by rw [e4]; exact KP.w0 (Or.inl rfl))
      refine h.kp ((k4.tr (KP.fm c2 (by omega))).tr (KP.fm c4 (by omega))) fun t => t.kp ?_ ?_ ?_ ?_
      · rw [c4.1 703 (by omega) (by omega), c2.1 703 (by omega) (by omega), e4, zw_off (by omega), F3 703 (by omega) (by omega)]
      · rw [c4.1 704 (by omega) (by omega), c2.1 704 (by omega) (by omega), e4, zw_off (by omega), F3 704 (by omega) (by omega)]
      · rw [c4.1 708 (by omega) (by omega), c2.1 708 (by omega) (by omega), e4, zw_ne (Or.inr (by omega)), F3 708 (by omega) (by omega)]
      · rw [c4.1 733 (by omega) (by omega), c2.1 733 (by omega) (by omega), e4, zw_off (by omega), F3 733 (by omega) (by omega)]
end PAIR1
