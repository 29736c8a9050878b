/-! class and model: check -/
section CHK
variable {g : GG} {D D' D0 : DD} {n : Nat} {r d w : Nat → Int} {pl : Nat → Nat} {x : Nat → Rat}
theorem sp_z {P : Nat → Prop} {m : Nat} (h : ∀ i, i < m → P i → x i = 0) : sp P x m = 0 := by
  have z := sp_congr (P := P) (P' := P) (f := x) (h := fun _ => 0) (n := m) (fun _ _ => Iff.rfl) h
  rw [z, sp_c, Rat.zero_mul]
theorem win_const {u v m : Nat} {s : Rat} : ∀ k : Nat, (∀ t, m ≤ t → t < m + k → x t = s) → sp (fun t => u ≤ t ∧ t < v) x (m + k) = sp (fun t => u ≤ t ∧ t < v) x m + s * ((max 0 (min ((m + k : Nat) : Int) v - max (m : Int) u) : Int) : Rat) := by
  intro k
  induction k with
  | zero =>
    intro _
    have e : max 0 (min ((m + 0 : Nat) : Int) v - max (m : Int) u) = 0 := by omega
    rw [e, show ((0 : Int) : Rat) = 0 from rfl, Rat.mul_zero, Rat.add_zero, Nat.add_zero]
  | succ k ih =>
    intro hx
    have e := ih fun t t1 t2 => hx t t1 (by omega)
    by_cases q : u ≤ m + k ∧ m + k < v
    · have l : max 0 (min ((m + (k + 1) : Nat) : Int) v - max (m : Int) u) = max 0 (min ((m + k : Nat) : Int) v - max (m : Int) u) + 1 := by omega
      have t := sp_t (P := fun t => u ≤ t ∧ t < v) (f := x) (n := m + k) q
      rw [l, Rat.intCast_add, ← Nat.add_assoc, t, e, hx (m + k) (by omega) (by omega), show ((1 : Int) : Rat) = 1 from rfl]
      generalize ((max 0 (min ((m + k : Nat) : Int) v - max (m : Int) u) : Int) : Rat) = a
      grind
    · have l : max 0 (min ((m + (k + 1) : Nat) : Int) v - max (m : Int) u) = max 0 (min ((m + k : Nat) : Int) v - max (m : Int) u) := by omega
      have t := sp_f (P := fun t => u ≤ t ∧ t < v) (f := x) (n := m + k) q
      rw [l, ← Nat.add_assoc, t, e]
/-- what the steps do between two times -/
theorem runs_win {u v fi la n' : Nat} {b e : Nat → Nat} {rt : Nat → Rat} (h : Runs x fi la n' b e rt) (z : ∀ t, t < 200 → t < fi ∨ la ≤ t → x t = 0) (hla : la ≤ 200) (hfl : fi ≤ la) : su (fun j => rt j * ((max 0 (min (e j : Int) v - max (b j : Int) u) : Int) : Rat)) n' = sp (fun t => u ≤ t ∧ t < v) x 200 := by
  have pos := h.pos
  have key : ∀ i, 0 < n' → i ≤ n' → sp (fun t => u ≤ t ∧ t < v) x (if i = 0 then fi else e (i - 1)) = su (fun j => rt j * ((max 0 (min (e j : Int) v - max (b j : Int) u) : Int) : Rat)) i := by
    intro i h0
    induction i with
    | zero =>
      intro _
      rw [if_pos rfl]
      exact sp_z fun t ht _ => z t (by omega) (Or.inl ht)
    | succ i ih =>
      intro hi
      have e0 := ih (by omega)
      have hb : (if i = 0 then fi else e (i - 1)) = b i := by
        split
        · next q => rw [q]; exact (h.2.1 h0).1.symm
        · next q =>
          have := (h.2.2.2 (i - 1) (by omega)).1
          rw [show i - 1 + 1 = i by omega] at this
          exact this
      have r3 := h.2.2.1 i (by omega)
      have wc := win_const (u := u) (v := v) (m := b i) (s := rt i) (e i - b i) fun t t1 t2 => r3.2 t t1 (by omega)
      rw [show b i + (e i - b i) = e i by omega] at wc
      rw [hb] at e0
      rw [if_neg (by omega), show i + 1 - 1 = i by omega, wc, e0]
      rfl
  by_cases h0 : 0 < n'
  · have k := key n' h0 (Nat.le_refl n')
    rw [if_neg (by omega), (h.2.1 h0).2] at k
    rw [← k, sp_cut (n := 200) hla, sp_z (P := fun i => la ≤ i ∧ u ≤ i ∧ i < v) fun t ht q => z t ht (Or.inr q.1), Rat.add_zero]
  · obtain rfl : n' = 0 := by omega
    have := h.1 rfl
    exact (sp_z fun t ht _ => z t ht (by omega)).symm
theorem sp_win {u v : Nat} (h : v ≤ 200) : sp (fun t => u ≤ t) x v = sp (fun t => u ≤ t ∧ t < v) x 200 := by
  rw [sp_cut (n := 200) h, sp_no (P := fun i => v ≤ i ∧ u ≤ i ∧ i < v) (fun i _ q => by omega), Rat.add_zero]
  exact sp_congr (fun i hi => ⟨fun q => ⟨q, hi⟩, fun q => q.1⟩) fun _ _ _ => rfl
theorem rcmp_le {y z : Rat} (h : y ≤ z) : rcmp y z ≤ 0 := by
  unfold rcmp
  split
  · omega
  · rw [if_neg (Rat.not_lt.mpr h)]; omega
theorem leaves_ok (f : JF n r d w pl) (h0 : JC D0 n r d w pl) {n' : Nat} {b e : Nat → Nat} {rt : Nat → Rat} (pr : PR D0 9 n' b e rt) (hbe : ∀ i, i < n' → b i < e i ∧ e i ≤ 200) (hr : ∀ i, i < n' → rt i ≤ 12000) {C : Int} (hC : C < 2 ^ 140)
    (hw : ∀ u v : Nat, u < v → v ≤ 200 → (wkb n r d w u v : Rat) ≤ su (fun j => rt j * ((max 0 (min (e j : Int) v - max (b j : Int) u) : Int) : Rat)) n') (hs : Sh D n' rt C) (F : FR 391 457 391 457 D0 D) :
    CI g M_Ke_leavesRoom [vR 0] D (fun v D' => v = 1 ∧ Sh D' n' rt C ∧ FR 391 457 391 457 D0 D') := by
  have hn := f.1
  refine CI.intro mc_Ke_leavesRoom (Nat.le_of_ble_eq_true rfl) rfl (s_Ke_leavesRoom_0 ?_)
  have outer : ∀ (m i : Nat) (D : DD) (z2 z3 z4 : VV), i + m = n → Sh D n' rt C → FR 391 457 391 457 D0 D → Sg g M_Ke_leavesRoom (rI (fun v D' => v = 1 ∧ Sh D' n' rt C ∧ FR 391 457 391 457 D0 D')) 2 [vR 0, vI i, z2, z3, z4] [] D := by
    intro m
    induction m with
    | zero =>
      intro i D z2 z3 z4 hm hs F
      have c := (h0.fr F (by omega)).1
      exact s_Ke_leavesRoom_2 ⟨fun _ => retI ⟨rfl, hs, F⟩, fun q => by omega⟩
    | succ m ih =>
      intro i D z2 z3 z4 hm hs F
      have c := (h0.fr F (by omega)).1
      refine s_Ke_leavesRoom_2 ⟨fun q => by omega, fun _ => ?_⟩
      have inner : ∀ (m2 k : Nat) (D : DD) (z3 z4 : VV), k + m2 = n → Sh D n' rt C → FR 391 457 391 457 D0 D → Sg g M_Ke_leavesRoom (rI (fun v D' => v = 1 ∧ Sh D' n' rt C ∧ FR 391 457 391 457 D0 D')) 15 [vR 0, vI i, vI k, z3, z4] [] D := by
        intro m2
        induction m2 with
        | zero =>
          intro k D z3 z4 hk hs F
          have c := (h0.fr F (by omega)).1
          exact s_Ke_leavesRoom_15 ⟨fun _ => ⟨by unfold R32; omega, ih (i + 1) D _ _ _ (by omega) hs F⟩, fun q => by omega⟩
        | succ m2 ih2 =>
          intro k D z3 z4 hk hs F
          have jc := h0.fr F (by omega)
          have c := jc.1
          have ri := (jc.2.1 i (by omega)).1
          have dk := (jc.2.1 k (by omega)).2.1
          have b1 := f.2.1 i (by omega)
          have b2 := f.2.1 k (by omega)
          have next : ∀ D, Sh D n' rt C → FR 391 457 391 457 D0 D → ∀ z3 z4, Sg g M_Ke_leavesRoom (rI (fun v D' => v = 1 ∧ Sh D' n' rt C ∧ FR 391 457 391 457 D0 D')) 82 [vR 0, vI i, vI k, z3, z4] [] D := fun D hs F z3 z4 => s_Ke_leavesRoom_82 ⟨by unfold R32; omega, ih2 (k + 1) D _ _ (by omega) hs F⟩
          refine s_Ke_leavesRoom_15 ⟨fun q => by omega, fun _ => ⟨⟨by omega, by omega⟩, fun _ => next D hs F _ _, fun q => (workWithin_ok f jc).mono fun y D2 r2 => ?_⟩⟩
          obtain ⟨rfl, rfl⟩ := r2
          rw [ri, dk]
          rw [ri, dk] at q
          refine s_Ke_leavesRoom_74 ?_
          have pr2 : PR D2 9 n' b e rt := pr.fr F (by omega)
          have wb := wkb_bd f (u := r i) (v := d k) (m := n) (Nat.le_refl n)
          refine (doesEnough_ok (a := 9) rfl pr2.pf (C := C) (fun j hj => by
            have z := pr2.2.2 j hj
            have y := hbe j hj
            have z1 : D2 10 j = b j := z.1
            have z2 : D2 11 j = e j := z.2.1
            rw [z1, z2]
            omega) (u := r i) (v := d k) (by omega) (by omega) (by omega) hr hC hs ?_).mono fun y D3 r3 => s_Ke_leavesRoom_77 ⟨fun _ => next D3 r3.2.1 (F.tr r3.2.2) _ _, fun q => by omega⟩
          obtain ⟨u, hu⟩ : ∃ u : Nat, r i = u := ⟨(r i).toNat, by omega⟩
          obtain ⟨v, hv⟩ : ∃ v : Nat, d k = v := ⟨(d k).toNat, by omega⟩
          rw [hu, hv]
          have eq : su (fun j => rt j * ((max 0 (min (e j : Int) v - max (b j : Int) u) : Int) : Rat)) n' = su (fun j => rt j * (lnw D2 9 (u : Int) (v : Int) j : Rat)) n' := su_congr fun j hj => by
            have z := pr2.2.2 j hj
            have z1 : D2 (9 + 1) j = b j := z.1
            have z2 : D2 (9 + 2) j = e j := z.2.1
            unfold lnw
            rw [z1, z2]
          rw [← eq]
          exact hw u v (by omega) (by omega)
      exact inner n 0 D _ _ (by omega) hs F
  exact outer n 0 D _ _ _ (by omega) hs F
theorem pr_check (h : INV D) : CI g M_Ke_check [vR 0] D (fun v D1 => CI g M_Mo_check [vR 708] D1 (fun v' D2 => v' = v ∧ INV D2)) := by
  obtain ⟨t0, n, r, d, w, pl, lv, rt, ct, i1, i2, i3, i4, i5⟩ := h.inc
  rcases i2 with ⟨z9, m10⟩ | ⟨z9, m10, x, x', pc, pm⟩
  · refine CI.intro mc_Ke_check (Nat.le_of_ble_eq_true rfl) rfl (s_Ke_check_0 ⟨fun q => absurd z9 q, fun _ => retI ?_⟩)
    refine CI.intro mc_Mo_check (Nat.le_of_ble_eq_true rfl) rfl (s_Mo_check_0 fun D2 e2 => ?_)
    have hi : INV D2 := by rw [e2]; exact h.w0
    have l : D2 708 10 = 0 := by rw [e2, zw_ne (Or.inr (by omega))]; exact m10
    exact ⟨fun _ => retI ⟨rfl, hi⟩, fun q => absurd l q⟩
  · have f := i1.1
    have jc := i1.2.1
    obtain ⟨⟨G, g1, g2, c, g4, g5⟩, ⟨L, sz⟩, ⟨⟨fi, la, n', b, e, rs, fl, pr, rn⟩, _, _, fc, fc1, fc2⟩⟩ := pc
    have fb := fl.bd f
    have dem : Dem n r d w x := by rw [g5]; exact c.dem
    have tot : su x 200 = su (fun j => (w j : Rat)) n := by rw [g5]; exact c.total
    have xn : ∀ t, t < 200 → 0 ≤ x t := fun t ht => (sz.2.2 t ht).1.1
    have out := dem_out xn dem tot fb.2.1 fb.1 fb.2.2.1
    have sr := rn.sz fb.2.1 sz
    have hbe : ∀ i, i < n' → b i < e i ∧ e i ≤ 200 := fun i hi => by
      have := rn.rt i hi
      omega
    have hr : ∀ i, i < n' → rs i ≤ 12000 := fun i hi => (sr.2.2 i hi).1.2
    -- what the class answers
    have fin : ∀ D1, FR 391 457 391 457 D D1 → CI g M_Mo_check [vR 708] D1 (fun v' D2 => v' = 1 ∧ INV D2) := fun D1 F => by
      refine CI.intro mc_Mo_check (Nat.le_of_ble_eq_true rfl) rfl (s_Mo_check_0 fun D2 e2 => ?_)
      have l : D2 708 10 = 1 := by rw [e2, zw_ne (Or.inr (by omega)), F 708 (by omega) (by omega)]; exact m10
      have k2 : KP D D2 := (KP.fr F).tr (by rw [e2]; exact KP.w0 (Or.inl rfl))
      have hi : INV D2 := h.kp k2 fun t => t.kp (by rw [e2, zw_off (by omega), F 703 (by omega) (by omega)]) (by rw [e2, zw_off (by omega), F 704 (by omega) (by omega)]) (by rw [e2, zw_ne (Or.inr (by omega)), F 708 (by omega) (by omega)]) (by rw [e2, zw_off (by omega), F 733 (by omega) (by omega)])
      exact ⟨fun q => by omega, fun _ => retI ⟨rfl, hi⟩⟩
    refine CI.intro mc_Ke_check (Nat.le_of_ble_eq_true rfl) rfl (s_Ke_check_0 ⟨fun _ => ?_, fun q => by omega⟩)
    refine (shareOut_ok (a := 9) rfl pr.pf hr sr.1 sr.2.1 fun i hi => (sr.2.2 i hi).2).mono fun D1 r1 => ?_
    obtain ⟨⟨C, hC, sh⟩, F1⟩ := r1
    have sl := sr.2.1
    refine s_Ke_check_23 ((leaves_ok f jc pr hbe hr (C := C) (by omega) (fun u v huv hv => ?_) sh F1).mono fun y D2 r2 => ?_)
    · rw [runs_win rn out fb.2.1 fb.1, wkb_rat, ← sp_win hv]
      exact dem u v (by omega) hv
    · obtain ⟨rfl, sh2, F2⟩ := r2
      refine s_Ke_check_27 ⟨fun q => by omega, fun _ => (allWork_ok f (jc.fr F2 (by omega))).mono fun y D3 r3 => ?_⟩
      obtain ⟨rfl, rfl⟩ := r3
      have pr3 : PR D3 9 n' b e rs := pr.fr F2 (by omega)
      have wb := wkb_bd f (u := 0) (v := 200) (m := n) (Nat.le_refl n)
      have hn := f.1
      refine s_Ke_check_45 ((doesJust_ok (a := 9) rfl pr3.pf (C := C) (fun j hj => by
            have z := pr3.2.2 j hj
            have y := hbe j hj
            have z1 : D3 10 j = b j := z.1
            have z2 : D3 11 j = e j := z.2.1
            rw [z1, z2]
            omega) (by omega) hr (by omega) sh2 ?_).mono fun y D4 r4 => ?_)
      · have rw1 := runs_win (u := 0) (v := 200) rn out fb.2.1 fb.1
        rw [sp_all (fun i hi => ⟨Nat.zero_le i, hi⟩), tot] at rw1
        rw [wkb_rat, sp_all (fun j hj => by have := f.2.1 j hj; omega), ← rw1]
        refine su_congr fun j hj => ?_
        have z := pr3.2.2 j hj
        have z1 : D3 (9 + 1) j = b j := z.1
        have z2 : D3 (9 + 2) j = e j := z.2.1
        unfold lnw
        rw [z1, z2]
        rfl
      · obtain ⟨rfl, _, F4⟩ := r4
        have F5 := F2.tr F4
        refine s_Ke_check_48 ⟨fun _ => ⟨fun _ => retI (fin D4 F5), fun q => ?_⟩, fun q => by omega⟩
        rw [F5 200 (by omega) (by omega)] at q
        rcases i3 with i | ⟨_, _, xa, hx, ⟨⟨La, sa⟩, _, _, _, fa, fa1, fa2⟩, _⟩
        · exact absurd i.1 q
        · have le : su (cub x) 200 ≤ su (cub xa) 200 := by
            have := c.cheapest (fun t ht => (sa.2.2 t ht).1.1) (hx.dem f.2.2.2 (fun j hj => (f.2.2.1 j hj).1) f.2.1)
            rw [g5]
            exact this
          have b2 : (2 : Int) ^ 420 < 2 ^ 475 := by decide
          have bd1 : bnd (su (cub x) 200) := ⟨fc1, by omega⟩
          have bd2 : bnd (su (cub xa) 200) := ⟨fa1, by omega⟩
          have fc' : Fq D4 15 (su (cub x) 200) := fc.fr F5 (by omega)
          have fa' : Fq D4 206 (su (cub xa) 200) := fa.fr F5 (by omega)
          refine (reOrder_ok (a := 15) (b := 206) (by decide +kernel) (by decide +kernel) fc' fa' (bnd_mul bd1 bd2 (Rat.num_nonneg.mpr fc.nn)) (bnd_mul bd2 bd1 (Rat.num_nonneg.mpr fa.nn))).mono fun v D5 r5 => ?_
          obtain ⟨rfl, F6⟩ := r5
          have := rcmp_le le
          exact s_Ke_check_84 ⟨fun _ => retI (fin D5 (F5.tr F6)), fun q => by omega⟩
end CHK
