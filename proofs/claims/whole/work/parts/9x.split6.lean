/-! split: the model, a job after another -/
def rowsJ (j : Nat) (m : Int) : Prop := 0 ≤ m ∧ m < 222 ∧ m ≠ 168 + 2 * j ∧ m ≠ 169 + 2 * j ∧ m ≠ 192 + 2 * j ∧ m ≠ 193 + 2 * j
def FOJ (j : Nat) (D D' : DD) : Prop := (∀ c, c ≠ 709 → c ≠ 710 → c ≠ 731 → c ≠ 732 → D' c = D c) ∧ (∀ i : Int, i ≠ j → D' 731 i = D 731 i ∧ D' 732 i = D 732 i) ∧ RK (rowsJ j) D D'
section SPLIT6
variable {g : GG} {D D' D'' D0 D1 : DD} {n lv : Nat} {r d w rt ct : Nat → Int} {pl : Nat → Nat} {x : Nat → Rat} {y S t : Rat} {u u' j : Nat}
theorem FOJ.tr (h : FOJ j D D') (h' : FOJ j D' D'') : FOJ j D D'' := ⟨fun c c1 c2 c3 c4 => (h'.1 c c1 c2 c3 c4).trans (h.1 c c1 c2 c3 c4), fun i hi => ⟨((h'.2.1 i hi).1).trans (h.2.1 i hi).1, ((h'.2.1 i hi).2).trans (h.2.1 i hi).2⟩, h.2.2.tr h'.2.2⟩
theorem FOJ.fm {lo hi lo2 hi2 : Int} (h : FM lo hi lo2 hi2 D D') (q : ∀ m, rowsJ j m → (m < lo ∨ hi ≤ m) ∧ (m < lo2 ∨ hi2 ≤ m)) : FOJ j D D' := ⟨fun c c1 c2 _ _ => h.1 c c1 c2, fun i _ => by rw [h.1 731 (by omega) (by omega), h.1 732 (by omega) (by omega)]; exact ⟨rfl, rfl⟩, h.rows.rk q⟩
theorem FOJ.w1 {v : Int} : FOJ j D (zw D 731 j v) := ⟨fun c _ _ c3 _ => zw_off c3, fun i hi => ⟨zw_ne (Or.inr hi), by rw [zw_off (by omega)]⟩, RK.off (zw_off (by omega)) (zw_off (by omega))⟩
theorem FOJ.w2 {v : Int} : FOJ j D (zw D 732 j v) := ⟨fun c _ _ _ c4 => zw_off c4, fun i hi => ⟨by rw [zw_off (by omega)], zw_ne (Or.inr hi)⟩, RK.off (zw_off (by omega)) (zw_off (by omega))⟩
theorem mtail_ok (lf : LF lv rt ct) (lm : LM D lv rt ct) (hj : j < 12) (hu : UPL lv rt y u) (hy0 : 0 < y) {W2 : Int} {i : Nat} (hi : i < 12) (h1 : D 731 j = lowr rt y u) (h2 : D 732 j = u) (h3 : Mq D (84 + j) (slw lv rt (W2 : Rat) y u)) (h4 : Mq D (96 + j) (fst2 lv rt (W2 : Rat) y u)) (hs : Mq D 112 S) (sb : SB (2 * i) S)
    (tb : ∀ c : Int, 0 ≤ c ∧ c ≤ 1000000 → TB (slw lv rt (W2 : Rat) y u * (c : Rat)) ∧ TB (fst2 lv rt (W2 : Rat) y u * (c : Rat)) ∧ bnd (slw lv rt (W2 : Rat) y u) ∧ bnd (fst2 lv rt (W2 : Rat) y u))
    {P : DD → Prop} (hk : ∀ D', FOJ j D D' → D' 731 j = lowr rt y u → D' 732 j = u → Mq D' (84 + j) (slw lv rt (W2 : Rat) y u) → Mq D' (96 + j) (fst2 lv rt (W2 : Rat) y u) → Mq D' 112 (S + (W2 : Rat) / y * cper lv rt ct y u) → SB (2 * (i + 1)) (S + (W2 : Rat) / y * cper lv rt ct y u) → P D')
    (z2 z3 z4 z5 z7 z8 z9 z10 : VV) : Sg g M_Mo_splitOne (rV P) 205 [vR 708, vI j, z2, z3, z4, z5, vI u, z7, z8, z9, z10] [] D := by
  have u8 := hu.1
  have lv8 := lf.1
  have lcb := lf.cb (lowr rt y u)
  have cb := (lf.2.1 u u8).2
  have t1 := tb _ lcb
  have t2 := tb _ cb
  have low : lowr rt y u = u ∨ lowr rt y u = (u : Int) - 1 := by unfold lowr; split <;> omega
  have go : Sg g M_Mo_splitOne (rV P) 234 [vR 708, vI j, vU, vU, vU, vU, vI u, vU, vU, vU, vU] [vI (lz lv ct (lowr rt y u)), vI (84 + j), vR 708] D := by
    refine s_Mo_splitOne_234 ((mpay_ok (f := 84 + j) (by omega) h3 hs lcb t1.2.2.1 (sb.bd (by omega))).mono fun D1 r1 => s_Mo_splitOne_237 ⟨⟨by unfold R32; omega, by omega⟩, ?_⟩)
    have e715 : D1 715 u = ct u := by rw [r1.2.1 715 (by omega) (by omega)]; exact (lm.2 u u8).2
    rw [e715]
    have sb1 := sb.add t1.1
    refine (mpay_ok (f := 96 + j) (by omega) (h4.fm r1.2 (by omega)) r1.1 cb t2.2.2.2 (sb1.bd (by omega))).mono fun D2 r2 => s_Mo_splitOne_252 (retV ?_)
    have sb2 := sb1.add t2.2.1
    have e := pay_eq (ct := ct) (W2 := (W2 : Rat)) hu hy0
    have f2 : FM 222 226 244 253 D D2 := r1.2.tr r2.2
    rw [Rat.add_assoc, e] at sb2
    have m2 := r2.1
    rw [Rat.add_assoc, e] at m2
    refine hk D2 (FOJ.fm f2 fun m hm => by unfold rowsJ at hm; omega) ?_ ?_ (h3.fm f2 (by omega)) (h4.fm f2 (by omega)) m2 ?_
    · rw [f2.1 731 (by omega) (by omega)]; exact h1
    · rw [f2.1 732 (by omega) (by omega)]; exact h2
    · rwa [show 2 * (i + 1) = 2 * i + 1 + 1 by omega]
  refine s_Mo_splitOne_205 ⟨⟨by unfold R32; omega, by omega⟩, fun q => ⟨⟨by omega, by omega⟩, ?_⟩, fun q => ?_⟩
  · rw [h1] at q ⊢
    obtain ⟨k, hk2⟩ : ∃ k : Nat, lowr rt y u = k := ⟨(lowr rt y u).toNat, by omega⟩
    have e : D 715 (lowr rt y u) = lz lv ct (lowr rt y u) := by
      rw [hk2, lz_at (by omega)]
      exact (lm.2 k (by omega)).2
    rw [e]; exact go
  · rw [h1] at q
    have e : lz lv ct (lowr rt y u) = 0 := if_neg (by omega)
    rw [e] at go; exact go
theorem splitOne_ok (lf : LF lv rt ct) (lm : LM D lv rt ct) (hj : j < 12) (hw : D 713 j = w j) (wb : 0 < w j ∧ w j ≤ 1000) {p q : Int} (ep : D 720 j = p) (eq : D 721 j = q) (hp : 0 < p ∧ p ≤ 12000) (hq : 0 < q ∧ q ≤ 200) (hy : y = (p : Rat) / (q : Rat)) (hu : UPL lv rt y u) {i : Nat} (hi : i < 12) (hs : Mq D 112 S) (sb : SB (2 * i) S) :
    CV g M_Mo_splitOne [vR 708, vI j] D (fun D' => FOJ j D D' ∧ MSJ D' lv rt w y u j ∧ Mq D' 112 (S + (w j : Rat) / y * cper lv rt ct y u) ∧ SB (2 * (i + 1)) (S + (w j : Rat) / y * cper lv rt ct y u)) := by
  have u8 := hu.1
  have lv8 := lf.1
  have t0 : (0 : Rat) < (q : Rat) := Rat.intCast_pos.mpr hq.1
  have y0 : 0 < y := by
    rw [hy, Rat.lt_div_iff t0, Rat.zero_mul]
    exact Rat.intCast_pos.mpr hp.1
  have rb := (lf.2.1 u u8).1
  have lb := lf.rb ((u : Int) - 1)
  have h3 : rt u * q ≤ 10000 * 200 := Int.mul_le_mul rb.2 hq.2 (by omega) (by decide)
  have h4 : 0 ≤ rt u * q := Int.mul_nonneg (by omega) (by omega)
  have tb : ∀ c : Int, 0 ≤ c ∧ c ≤ 1000000 → TB (slw lv rt (w j : Rat) y u * (c : Rat)) ∧ TB (fst2 lv rt (w j : Rat) y u * (c : Rat)) ∧ bnd (slw lv rt (w j : Rat) y u) ∧ bnd (fst2 lv rt (w j : Rat) y u) := fun c hc => parts_tb lf hu hp hq wb hy hc
  refine CV.intro mc_Mo_splitOne (Nat.le_of_ble_eq_true rfl) rfl (s_Mo_splitOne_0 ⟨⟨by omega, by omega⟩, ?_⟩)
  rw [ep, eq]
  have at714 : ∀ k : Nat, k < lv → D 714 k = rt k := fun k hk => (lm.2 k hk).1
  -- at the level
  have there : ∀ z7 z8 z9 z10 : VV, Sg g M_Mo_splitOne (rV (fun D' => FOJ j D D' ∧ MSJ D' lv rt w y u j ∧ Mq D' 112 (S + (w j : Rat) / y * cper lv rt ct y u) ∧ SB (2 * (i + 1)) (S + (w j : Rat) / y * cper lv rt ct y u))) 18 [vR 708, vI j, vL p, vU, vL q, vU, vI u, z7, z8, z9, z10] [] D := fun z7 z8 z9 z10 => by
    have nlt : p ≤ rt u * q := by
      have h2 := hu.2.1
      rw [hy] at h2
      refine Decidable.byContradiction fun z => ?_
      have z2 : ((rt u * q : Int) : Rat) < (p : Rat) := Rat.intCast_lt_intCast.mpr (by omega)
      rw [Rat.intCast_mul, ← Rat.lt_div_iff t0] at z2
      grind
    refine s_Mo_splitOne_18 ?_
    rw [at714 u u8]
    refine ⟨⟨by omega, by unfold R64; omega⟩, fun _ => ⟨by omega, fun D5 e5 => ?_⟩, fun z => by omega⟩
    have o5 : ∀ c, c ≠ 732 → D5 c = D c := fun c hc => by rw [e5, zw_off hc]
    rw [o5 714 (by omega), at714 u u8]
    have F5 : FOJ j D D5 := by rw [e5]; exact FOJ.w2
    have v5 : D5 732 j = u := by rw [e5, zw_eq]
    refine ⟨⟨by omega, by unfold R64; omega⟩, fun ne => ⟨⟨by unfold R32; omega, by omega⟩, fun D12 e12 => ?_⟩, fun ee => ⟨by omega, fun D18 e18 => ?_⟩⟩
    · rcases parts lf hu hp hq wb hy with ⟨e1, _⟩ | ⟨e1, el, l1, l2, l3, l4, es, ef⟩
      · exact absurd e1 ne
      · have o12 : ∀ c, c ≠ 731 → D12 c = D5 c := fun c hc => by rw [e12, zw_off hc]
        have v12 : D12 731 j = lowr rt y u := by rw [e12, zw_eq, el]
        have w12 : D12 732 j = u := by rw [o12 732 (by omega)]; exact v5
        have F12 : FOJ j D D12 := F5.tr (by rw [e12]; exact FOJ.w1)
        have lm12 : LM D12 lv rt ct := lm.kp (by rw [o12 708 (by omega), o5 708 (by omega)]) fun c c1 c2 => by rw [o12 c (by omega), o5 c (by omega)]
        have hs12 : Mq D12 112 S := hs.off (by rw [o12 709 (by omega), o5 709 (by omega)]) (by rw [o12 710 (by omega), o5 710 (by omega)])
        have g12 : Sg g M_Mo_splitOne (rV (fun D' => FOJ j D D' ∧ MSJ D' lv rt w y u j ∧ Mq D' 112 (S + (w j : Rat) / y * cper lv rt ct y u) ∧ SB (2 * (i + 1)) (S + (w j : Rat) / y * cper lv rt ct y u))) 133 [vR 708, vI j, vL p, vU, vL q, vU, vI u, vU, vU, vU, vU] [vL (lz lv rt ((u : Int) - 1))] D12 := by
          refine s_Mo_splitOne_133 ?_
          have e714 : D12 714 u = rt u := by rw [o12 714 (by omega), o5 714 (by omega)]; exact at714 u u8
          have e713 : D12 713 j = w j := by rw [o12 713 (by omega), o5 713 (by omega)]; exact hw
          rw [e714, e713]
          have p1 : 0 ≤ w j * (rt u * q - p) := Int.mul_nonneg (by omega) (by omega)
          have p2 : w j * (rt u * q - p) ≤ 1000 * 2000000 := Int.mul_le_mul wb.2 (by omega) (by omega) (by decide)
          have p3 : 0 ≤ w j * (p - lz lv rt ((u : Int) - 1) * q) := Int.mul_nonneg (by omega) (by omega)
          have p4 : w j * (p - lz lv rt ((u : Int) - 1) * q) ≤ 1000 * 12000 := Int.mul_le_mul wb.2 (by omega) (by omega) (by decide)
          have q1 : 0 < p * (rt u - lz lv rt ((u : Int) - 1)) := Int.mul_pos hp.1 (by omega)
          have q2 : p * (rt u - lz lv rt ((u : Int) - 1)) ≤ 12000 * 10000 := Int.mul_le_mul hp.2 (by omega) (by omega) (by decide)
          refine ⟨⟨by omega, by unfold R32; omega, by omega, by unfold R64; omega, by unfold R64; omega, by unfold R64; omega, by unfold R64; omega, by unfold R64; omega⟩, ?_⟩
          refine (mtell_ok (f := 84 + j) (by omega) p1 q1).mono fun D13 r13 => s_Mo_splitOne_175 ?_
          obtain ⟨a1, a2⟩ := r13
          have f713 : D13 713 j = w j := by rw [a2.1 713 (by omega) (by omega)]; exact e713
          rw [f713]
          refine ⟨⟨by unfold R32; omega, by omega, by unfold R64; omega, by unfold R64; omega, by unfold R64; omega, by unfold R64; omega, by unfold R64; omega⟩, ?_⟩
          refine (mtell_ok (f := 96 + j) (by omega) p3 q1).mono fun D14 r14 => ?_
          obtain ⟨b1, b2⟩ := r14
          rw [← es] at a1
          rw [← ef] at b1
          have lm14 : LM D14 lv rt ct := lm12.kp (by rw [b2.1 708 (by omega) (by omega), a2.1 708 (by omega) (by omega)]) fun c c1 c2 => by rw [b2.1 c (by omega) (by omega), a2.1 c (by omega) (by omega)]
          have F14 : FOJ j D D14 := F12.tr ((FOJ.fm a2 fun m hm => by unfold rowsJ at hm; omega).tr (FOJ.fm b2 fun m hm => by unfold rowsJ at hm; omega))
          exact mtail_ok lf lm14 hj hu y0 hi (by rw [b2.1 731 (by omega) (by omega), a2.1 731 (by omega) (by omega)]; exact v12) (by rw [b2.1 732 (by omega) (by omega), a2.1 732 (by omega) (by omega)]; exact w12) (a1.fm b2 (by omega)) b1 ((hs12.fm a2 (by omega)).fm b2 (by omega)) sb tb (fun D' k1 k2 k3 k4 k5 k6 k7 => ⟨F14.tr k1, ⟨k2, k3, k4, k5⟩, k6, k7⟩) _ _ _ _ _ _ _ _
        refine ⟨fun z => ?_, fun z => ⟨⟨by unfold R32; omega, by omega⟩, ?_⟩⟩
        · have e : lz lv rt ((u : Int) - 1) = 0 := if_neg (by omega)
          rw [e] at g12; exact g12
        · have e : D12 714 ((u : Int) - 1) = lz lv rt ((u : Int) - 1) := by
            rw [o12 714 (by omega), o5 714 (by omega), show ((u : Int) - 1) = ((u - 1 : Nat) : Int) by omega, lz_at (by omega)]
            exact at714 (u - 1) (by omega)
          rw [e]; exact g12
    · rcases parts lf hu hp hq wb hy with ⟨e1, el, es, ef⟩ | ⟨e1, _⟩
      · have o18 : ∀ c, c ≠ 731 → D18 c = D5 c := fun c hc => by rw [e18, zw_off hc]
        have v18 : D18 731 j = lowr rt y u := by rw [e18, zw_eq, el]
        have w18 : D18 732 j = u := by rw [o18 732 (by omega)]; exact v5
        have F18 : FOJ j D D18 := F5.tr (by rw [e18]; exact FOJ.w1)
        have lm18 : LM D18 lv rt ct := lm.kp (by rw [o18 708 (by omega), o5 708 (by omega)]) fun c c1 c2 => by rw [o18 c (by omega), o5 c (by omega)]
        have hs18 : Mq D18 112 S := hs.off (by rw [o18 709 (by omega), o5 709 (by omega)]) (by rw [o18 710 (by omega), o5 710 (by omega)])
        have e713 : D18 713 j = w j := by rw [o18 713 (by omega), o5 713 (by omega)]; exact hw
        rw [e713]
        have m1 : 0 ≤ w j * q := Int.mul_nonneg (by omega) (by omega)
        have m2 : w j * q ≤ 1000 * 200 := Int.mul_le_mul wb.2 hq.2 (by omega) (by decide)
        refine ⟨⟨by unfold R32; omega, by omega, by unfold R64; omega⟩, ?_⟩
        refine (mtell_ok (f := 84 + j) (by omega) m1 hp.1).mono fun D13 r13 => s_Mo_splitOne_91 ⟨by unfold R32; omega, ?_⟩
        obtain ⟨a1, a2⟩ := r13
        refine (mtell_ok (f := 96 + j) (p := 0) (q := 1) (by omega) (by omega) (by omega)).mono fun D14 r14 => s_Mo_splitOne_101 ?_
        obtain ⟨b1, b2⟩ := r14
        rw [← es] at a1
        rw [← ef] at b1
        have lm14 : LM D14 lv rt ct := lm18.kp (by rw [b2.1 708 (by omega) (by omega), a2.1 708 (by omega) (by omega)]) fun c c1 c2 => by rw [b2.1 c (by omega) (by omega), a2.1 c (by omega) (by omega)]
        have F14 : FOJ j D D14 := F18.tr ((FOJ.fm a2 fun m hm => by unfold rowsJ at hm; omega).tr (FOJ.fm b2 fun m hm => by unfold rowsJ at hm; omega))
        exact mtail_ok lf lm14 hj hu y0 hi (by rw [b2.1 731 (by omega) (by omega), a2.1 731 (by omega) (by omega)]; exact v18) (by rw [b2.1 732 (by omega) (by omega), a2.1 732 (by omega) (by omega)]; exact w18) (a1.fm b2 (by omega)) b1 ((hs18.fm a2 (by omega)).fm b2 (by omega)) sb tb (fun D' k1 k2 k3 k4 k5 k6 k7 => ⟨F14.tr k1, ⟨k2, k3, k4, k5⟩, k6, k7⟩) _ _ _ _ _ _ _ _
      · omega
  have loop : ∀ (m k : Nat) (z7 z8 z9 z10 : VV), k + m = u → Sg g M_Mo_splitOne (rV (fun D' => FOJ j D D' ∧ MSJ D' lv rt w y u j ∧ Mq D' 112 (S + (w j : Rat) / y * cper lv rt ct y u) ∧ SB (2 * (i + 1)) (S + (w j : Rat) / y * cper lv rt ct y u))) 18 [vR 708, vI j, vL p, vU, vL q, vU, vI k, z7, z8, z9, z10] [] D := by
    intro m
    induction m with
    | zero =>
      intro k z7 z8 z9 z10 hk
      obtain rfl : k = u := by omega
      exact there _ _ _ _
    | succ m ih =>
      intro k z7 z8 z9 z10 hk
      have lt := hu.2.2 k (by omega)
      rw [hy, Rat.lt_div_iff t0, ← Rat.intCast_mul] at lt
      have lt2 := Rat.intCast_lt_intCast.mp lt
      have rk := (lf.2.1 k (by omega)).1
      have h5 : 0 ≤ rt k * q := Int.mul_nonneg (by omega) (by omega)
      refine s_Mo_splitOne_18 ?_
      rw [at714 k (by omega)]
      exact ⟨⟨by omega, by unfold R64; omega⟩, fun z => by omega, fun _ => ⟨by unfold R32; omega, ih (k + 1) _ _ _ _ (by omega)⟩⟩
  exact loop u 0 _ _ _ _ (by omega)
end SPLIT6
