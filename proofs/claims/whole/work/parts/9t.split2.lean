/-! split: the class -/
/-- a job's part -/
def SJ (D : DD) (lv : Nat) (rt w : Nat → Int) (y : Rat) (u j : Nat) : Prop := D 574 j = lowr rt y u ∧ D 575 j = u ∧ Fq D (583 + 10 * j) (slw lv rt (w j : Rat) y u) ∧ Fq D (588 + 10 * j) (fst2 lv rt (w j : Rat) y u)
def LI (D1 : DD) (n lv : Nat) (rt w : Nat → Int) (y : Rat) (u : Nat) (k : Int) (i : Nat) (D : DD) : Prop :=
  (∀ c, c ≠ 574 → c ≠ 575 → (c < 583 ∨ 703 ≤ c) → D c = D1 c) ∧
  ∀ j : Nat, j < n → (D1 461 j = k ∧ j < i → SJ D lv rt w y u j) ∧ (¬ (D1 461 j = k ∧ j < i) → D 574 j = D1 574 j ∧ D 575 j = D1 575 j ∧ ∀ c, 583 + 10 * j ≤ c → c < 593 + 10 * j → D c = D1 c)
section SPLIT2
variable {g : GG} {D D' D0 D1 : DD} {n lv : Nat} {r d w rt ct : Nat → Int} {pl : Nat → Nat} {x : Nat → Rat} {y : Rat} {u u' : Nat}
theorem SJ.of {j : Nat} (h : SJ D lv rt w y u j) (h1 : D' 574 j = D 574 j) (h2 : D' 575 j = D 575 j) (h3 : ∀ c, 583 + 10 * j ≤ c → c < 593 + 10 * j → D' c = D c) : SJ D' lv rt w y u j :=
  ⟨h1.trans h.1, h2.trans h.2.1, h.2.2.1.cells fun c _ _ => h3 c (by omega) (by omega), h.2.2.2.cells fun c _ _ => h3 c (by omega) (by omega)⟩
/-- a job more -/
theorem LI.more {k : Int} {i : Nat} (h : LI D1 n lv rt w y u k i D) (hi : i < n) (hk : D1 461 i = k) (q : ∀ c, c ≠ 574 → c ≠ 575 → (c < 583 + 10 * i ∨ 593 + 10 * i ≤ c) → D' c = D c) (q1 : ∀ j : Nat, j ≠ i → D' 574 j = D 574 j ∧ D' 575 j = D 575 j) (s : SJ D' lv rt w y u i) (hn : n ≤ 12) : LI D1 n lv rt w y u k (i + 1) D' := by
  refine ⟨fun c c1 c2 c3 => by rw [q c c1 c2 (by omega)]; exact h.1 c c1 c2 c3, fun j hj => ?_⟩
  rcases (show j = i ∨ j ≠ i by omega) with z | z
  · subst z
    exact ⟨fun _ => s, fun t => absurd ⟨hk, by omega⟩ t⟩
  · have a := h.2 j hj
    have b := q1 j z
    have o : ∀ c, 583 + 10 * j ≤ c → c < 593 + 10 * j → D' c = D c := fun c c1 c2 => q c (by omega) (by omega) (by omega)
    refine ⟨fun t => (a.1 ⟨t.1, by omega⟩).of b.1 b.2 o, fun t => ?_⟩
    have a2 := a.2 (fun v => t ⟨v.1, by omega⟩)
    exact ⟨b.1.trans a2.1, b.2.trans a2.2.1, fun c c1 c2 => (o c c1 c2).trans (a2.2.2 c c1 c2)⟩
theorem LI.skip {k : Int} {i : Nat} (h : LI D1 n lv rt w y u k i D) (hk : D1 461 i ≠ k) : LI D1 n lv rt w y u k (i + 1) D := by
  refine ⟨h.1, fun j hj => ?_⟩
  rcases (show j = i ∨ j ≠ i by omega) with z | z
  · subst z
    exact ⟨fun t => absurd t.1 hk, fun _ => (h.2 j hj).2 fun v => by omega⟩
  · exact ⟨fun t => (h.2 j hj).1 ⟨t.1, by omega⟩, fun t => (h.2 j hj).2 fun v => t ⟨v.1, by omega⟩⟩
theorem sgroup_loop (f : JF n r d w pl) (h0 : JC D1 n r d w pl) {k W T low ap und ov : Int} (hW : 0 < W ∧ W ≤ 12000) (hT : 0 < T ∧ T ≤ 200) (hy : y = (W : Rat) / (T : Rat)) (lf : LF lv rt ct) (hu : UPL lv rt y u)
    (hc : (y = (rt u : Rat) ∧ low = u ∧ ap = 0) ∨ (y ≠ (rt u : Rat) ∧ low = (u : Int) - 1 ∧ ap = rt u - lz lv rt ((u : Int) - 1) ∧ und = rt u * T - W ∧ ov = W - lz lv rt ((u : Int) - 1) * T)) :
    ∀ (m i : Nat) (D : DD), i + m = n → LI D1 n lv rt w y u k i D → Sg g M_Sp_splitGroup (rV (fun D' => LI D1 n lv rt w y u k n D')) 160 [vR 573, vR 457, vI k, vR 1, vU, vI u, vU, vL W, vU, vL T, vU, vL und, vU, vI low, vI ap, vL ov, vU, vI i] [] D := by
  have hn := f.1
  have u8 := hu.1
  have lv8 := lf.1
  have y0 : 0 < y := by
    rw [hy, Rat.lt_div_iff (Rat.intCast_pos.mpr hT.1), Rat.zero_mul]
    exact Rat.intCast_pos.mpr hW.1
  intro m
  induction m with
  | zero =>
    intro i D hm h
    have c1 : D 1 0 = n := by rw [h.1 1 (by omega) (by omega) (by omega)]; exact h0.1
    obtain rfl : i = n := by omega
    exact s_Sp_splitGroup_160 ⟨fun _ => retV h, fun q => by omega⟩
  | succ m ih =>
    intro i D hm h
    have c1 : D 1 0 = n := by rw [h.1 1 (by omega) (by omega) (by omega)]; exact h0.1
    have e461 : D 461 = D1 461 := h.1 461 (by omega) (by omega) (by omega)
    have e4 : D 4 i = w i := by rw [h.1 4 (by omega) (by omega) (by omega)]; exact (h0.2.1 i (by omega)).2.2
    have wb := f.2.2.1 i (by omega)
    refine s_Sp_splitGroup_160 ⟨fun q => by omega, fun _ => (groupOf_ok (show i < 12 by omega)).mono fun v D2 r2 => ?_⟩
    obtain ⟨rfl, rfl⟩ := r2
    rw [e461]
    have next : ∀ D', LI D1 n lv rt w y u k (i + 1) D' → Sg g M_Sp_splitGroup (rV (fun D' => LI D1 n lv rt w y u k n D')) 297 [vR 573, vR 457, vI k, vR 1, vU, vI u, vU, vL W, vU, vL T, vU, vL und, vU, vI low, vI ap, vL ov, vU, vI i] [] D' := fun D' h' => s_Sp_splitGroup_297 ⟨by unfold R32; omega, ih (i + 1) D' (by omega) h'⟩
    refine s_Sp_splitGroup_175 ⟨fun qk => ⟨by omega, fun D3 e3 => ⟨by omega, fun D6 e6 => ?_⟩⟩, fun q => next D2 (h.skip q)⟩
    have o6 : ∀ c, c ≠ 574 → c ≠ 575 → D6 c = D2 c := fun c h1 h2 => by rw [e6, zw_off h2, e3, zw_off h1]
    have a6 : D6 574 i = low := by rw [e6, zw_off (by omega), e3, zw_eq]
    have b6 : D6 575 i = u := by rw [e6, zw_eq]
    have n6 : ∀ j : Nat, j ≠ i → D6 574 j = D2 574 j ∧ D6 575 j = D2 575 j := fun j hj => by
      constructor
      · rw [e6, zw_off (by omega), e3, zw_ne (Or.inr (by omega))]
      · rw [e6, zw_ne (Or.inr (by omega)), e3, zw_off (by omega)]
    have w6 : D6 4 i = w i := by rw [o6 4 (by omega) (by omega)]; exact e4
    rw [w6, Int.toNat_natCast]
    have fin : ∀ D7 D8 : DD, FF (583 + 10 * i) D6 D7 → FF (588 + 10 * i) D7 D8 → lowr rt y u = low → Fq D7 (583 + 10 * i) (slw lv rt (w i : Rat) y u) → Fq D8 (588 + 10 * i) (fst2 lv rt (w i : Rat) y u) → LI D1 n lv rt w y u k (i + 1) D8 := fun D7 D8 f7 f8 hl s1 s2 => by
      refine h.more (by omega) qk (fun c h1 h2 h3 => by rw [f8 c (by omega) (by omega), f7 c (by omega) (by omega), o6 c h1 h2]) (fun j hj => ?_) ⟨?_, ?_, s1.cells fun c c1 c2 => f8 c (by omega) (by omega), s2⟩ hn
      · rw [f8 574 (by omega) (by omega), f7 574 (by omega) (by omega), f8 575 (by omega) (by omega), f7 575 (by omega) (by omega)]; exact n6 j hj
      · rw [f8 574 (by omega) (by omega), f7 574 (by omega) (by omega), a6, hl]
      · rw [f8 575 (by omega) (by omega), f7 575 (by omega) (by omega), b6]
    have m1 : 0 ≤ w i * T := Int.mul_nonneg (by omega) (by omega)
    have m2 : w i * T ≤ 1000 * 200 := Int.mul_le_mul wb.2 hT.2 (by omega) (by decide)
    have b128 : (2 : Int) ^ 128 = 340282366920938463463374607431768211456 := by decide
    rcases hc with ⟨ye, rfl, rfl⟩ | ⟨ye, rfl, rfl, rfl, rfl⟩
    · refine ⟨fun q => absurd rfl q, fun _ => ⟨⟨by omega, by omega, by unfold R64; omega⟩, ?_⟩⟩
      have mm : w i * T * W ≤ 200000 * 12000 := Int.mul_le_mul (by omega) hW.2 (by omega) (by decide)
      refine (frSet_ok (zk_slow (k := i) (by omega)) m1 (q := W) (by omega) (by omega)).mono fun D7 r7 => s_Sp_splitGroup_228 ⟨by omega, ?_⟩
      rw [Int.toNat_natCast]
      refine (frSet_ok (zk_fast (k := i) (by omega)) (p := 0) (q := 1) (by omega) (by omega) (by omega)).mono fun D8 r8 => s_Sp_splitGroup_240 (next D8 (fin D7 D8 r7.2 r8.2 ?_ ?_ ?_))
      · unfold lowr; rw [if_pos ye]
      · have e : slw lv rt (w i : Rat) y u = ((w i * T : Int) : Rat) / (W : Rat) := by
          unfold slw
          rw [if_pos ye, hy, Rat.intCast_mul]
          have t0 : (0 : Rat) < (T : Rat) := Rat.intCast_pos.mpr hT.1
          have w0 : (0 : Rat) < (W : Rat) := Rat.intCast_pos.mpr hW.1
          generalize (T : Rat) = t at *
          generalize (W : Rat) = v at *
          clear ih h next fin n6 o6
          grind
        rw [e]; exact r7.1
      · have e : fst2 lv rt (w i : Rat) y u = ((0 : Int) : Rat) / ((1 : Int) : Rat) := by
          unfold fst2
          rw [if_pos ye, show ((0 : Int) : Rat) = 0 from rfl, Rat.div_def, Rat.zero_mul]
        rw [e]; exact r8.1
    · have l := hu.lo y0
      have hh := hu.hi ye
      have rb := (lf.2.1 u u8).1
      have lb := lf.rb ((u : Int) - 1)
      have t0 : (0 : Rat) < (T : Rat) := Rat.intCast_pos.mpr hT.1
      have w0 : (0 : Rat) < (W : Rat) := Rat.intCast_pos.mpr hW.1
      have l2 : lz lv rt ((u : Int) - 1) * T < W := by
        rw [hy, Rat.lt_div_iff t0, ← Rat.intCast_mul] at l
        exact Rat.intCast_lt_intCast.mp l
      have h2 : W < rt u * T := by
        rw [hy, Rat.div_lt_iff t0, ← Rat.intCast_mul] at hh
        exact Rat.intCast_lt_intCast.mp hh
      have ap0 : lz lv rt ((u : Int) - 1) < rt u := Rat.intCast_lt_intCast.mp (by grind)
      have e1 : slw lv rt (w i : Rat) y u = ((w i * (rt u * T - W) : Int) : Rat) / ((W * (rt u - lz lv rt ((u : Int) - 1)) : Int) : Rat) := by
        unfold slw
        rw [if_neg ye, hy, Rat.intCast_mul, Rat.intCast_mul, Rat.intCast_sub, Rat.intCast_sub, Rat.intCast_mul]
        exact (slw_frac w0 t0 (by have := Rat.intCast_lt_intCast.mpr ap0; grind)).symm
      have e2 : fst2 lv rt (w i : Rat) y u = ((w i * (W - lz lv rt ((u : Int) - 1) * T) : Int) : Rat) / ((W * (rt u - lz lv rt ((u : Int) - 1)) : Int) : Rat) := by
        unfold fst2
        rw [if_neg ye, hy, Rat.intCast_mul, Rat.intCast_mul, Rat.intCast_sub, Rat.intCast_sub, Rat.intCast_mul]
        exact (fst_frac w0 t0 (by have := Rat.intCast_lt_intCast.mpr ap0; grind)).symm
      rw [e1, e2] at fin
      clear e1 e2
      have l3 : 0 ≤ lz lv rt ((u : Int) - 1) * T := Int.mul_nonneg lb.1 (by omega)
      have h3 : rt u * T ≤ 10000 * 200 := Int.mul_le_mul rb.2 hT.2 (by omega) (by decide)
      generalize lz lv rt ((u : Int) - 1) * T = loT at *
      generalize rt u * T = hiT at *
      generalize eap : rt u - lz lv rt ((u : Int) - 1) = apx at *
      have p1 : 0 ≤ w i * (hiT - W) := Int.mul_nonneg (by omega) (by omega)
      have p2 : w i * (hiT - W) ≤ 1000 * 2000000 := Int.mul_le_mul wb.2 (by omega) (by omega) (by decide)
      have p3 : 0 ≤ w i * (W - loT) := Int.mul_nonneg (by omega) (by omega)
      have p4 : w i * (W - loT) ≤ 1000 * 12000 := Int.mul_le_mul wb.2 (by omega) (by omega) (by decide)
      have q1 : 0 < W * apx := Int.mul_pos hW.1 (by omega)
      have q2 : W * apx ≤ 12000 * 10000 := Int.mul_le_mul hW.2 (by omega) (by omega) (by decide)
      have s1 : w i * (hiT - W) * (W * apx) ≤ 2000000000 * 120000000 := Int.mul_le_mul (by omega) (by omega) (by omega) (by decide)
      have s2 : w i * (W - loT) * (W * apx) ≤ 12000000 * 120000000 := Int.mul_le_mul (by omega) (by omega) (by omega) (by decide)
      refine ⟨fun _ => ⟨⟨by omega, by omega, by unfold R64; omega, by unfold R64; omega⟩, ?_⟩, fun q => by omega⟩
      refine (frSet_ok (zk_slow (k := i) (by omega)) p1 (q := W * apx) (by omega) (by omega)).mono fun D7 r7 => s_Sp_splitGroup_270 ?_
      have w7 : D7 4 i = w i := by rw [r7.2 4 (by omega) (by omega)]; exact w6
      rw [w7, Int.toNat_natCast]
      refine ⟨⟨by omega, by omega, by unfold R64; omega, by unfold R64; omega⟩, ?_⟩
      refine (frSet_ok (zk_fast (k := i) (by omega)) p3 (q := W * apx) (by omega) (by omega)).mono fun D8 r8 => next D8 (fin D7 D8 r7.2 r8.2 ?_ r7.1 r8.1)
      unfold lowr; rw [if_neg ye]
end SPLIT2
