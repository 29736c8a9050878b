/-! the model's AHEAD: workAhead -/
section MAH5
variable {g : GG} {D D0 : DD} {n : Nat} {r d w v : Nat → Int} {pl : Nat → Nat} {R R' : Nat → Rat} {c : Int} {t : Nat}
theorem wa_mul (f : JF n r d w pl) (h0 : JM D0 n r d w) {len next : Int} (hl : 0 < len ∧ len ≤ 200) (hc : Mn D0 242 c) (hc2 : c * len < MB ^ 100) (hv : ∀ j : Nat, j < n → Mn D0 (230 + (j : Int)) (v j)) (hb : ∀ j : Nat, j < n → v j * len < MB ^ 100) {Q : Option VV → EE → DD → Prop}
    (hk : ∀ D z3 z4, FM 230 243 230 243 D0 D → Mn D 242 (c * len) → (∀ j : Nat, j < n → Mn D (230 + (j : Int)) (v j * len)) → Sg g M_Mo_workAhead Q 37 [vR 708, vI t, vI next, z3, z4] [] D) :
    ∀ (m j : Nat) (D : DD), j + m = n → FM 230 242 230 242 D0 D → (∀ i : Nat, i < n → (i < j → Mn D (230 + (i : Int)) (v i * len)) ∧ (j ≤ i → Mn D (230 + (i : Int)) (v i))) → Sg g M_Mo_workAhead Q 3 [vR 708, vI t, vI next, vI len, vI j] [] D := by
  have hn := f.1
  intro m
  induction m with
  | zero =>
    intro j D hm F hI
    have e := h0.1
    rw [← F.1 708 (by omega) (by omega)] at e
    refine s_Mo_workAhead_3 ⟨fun _ => (mtimes_ok (n := 242) (by omega) (hc.fm F (by omega)) (by omega) hc2).mono fun D2 r2 => hk D2 _ _ ((F.mono fun m _ _ => by omega).tr (FM.f1 r2.2 (by omega))) r2.1 fun i hi => ((hI i hi).1 (by omega)).f1 r2.2 (by omega), fun q => by omega⟩
  | succ m ih =>
    intro j D hm F hI
    have e := h0.1
    rw [← F.1 708 (by omega) (by omega)] at e
    refine s_Mo_workAhead_3 ⟨fun q => by omega, fun _ => ⟨by unfold R32; omega, (mtimes_ok (n := 230 + (j : Int)) (by omega) ((hI j (by omega)).2 (Nat.le_refl j)) (by omega) (hb j (by omega))).mono fun D2 r2 => s_Mo_workAhead_23 ⟨by unfold R32; omega, ih (j + 1) D2 (by omega) (F.tr (FM.f1 r2.2 (by omega))) fun i hi => ?_⟩⟩⟩
    have A := hI i hi
    rcases (show i = j ∨ i ≠ j by omega) with y | y
    · subst y
      exact ⟨fun _ => r2.1, fun z => by omega⟩
    · exact ⟨fun z => (A.1 (by omega)).f1 r2.2 (by omega), fun z => (A.2 (by omega)).f1 r2.2 (by omega)⟩
theorem wa_who (f : JF n r d w pl) (h0 : JM D0 n r d w) (hR : ∀ j, j < n → 0 ≤ R j ∧ R j ≤ 1000) {K : Int} (hv : MFS D0 n R K v) (dead : ∀ j, j < n → d j ≤ (t : Int) → R j = 0) {kk : Nat} {s : Rat} {bv : Int} (hkk : t + kk ≤ 200) (hs : 0 < s) (hbv : (bv : Rat) = s * (K : Rat)) (hb : Mn D0 243 bv) (hb2 : bv * 200 < 2 ^ 260) (hfull : (kk : Rat) * s ≤ cum (fun j => r j ≤ (t : Int)) R pl n) {Q : Option VV → EE → DD → Prop}
    (hk : ∀ D z3 z4, (∀ c, c ≠ 709 → c ≠ 710 → c ≠ 730 → D c = D0 c) → RF 244 246 244 246 D0 D → (∀ i : Nat, i < kk → ∃ p, p < n ∧ D 730 ((t + i : Nat) : Int) = pl p ∧ cum (fun j => r j ≤ (t : Int)) R pl p ≤ (i : Rat) * s ∧ (i : Rat) * s < cum (fun j => r j ≤ (t : Int)) R pl (p + 1)) → (∀ u : Int, ¬ ((t : Int) ≤ u ∧ u < ((t + kk : Nat) : Int)) → D 730 u = D0 730 u) → CV g M_Mo_copy [vR 708, vI 243, vI 246] D (fun D' => Sg g M_Mo_workAhead Q 80 [vR 708, vI t, vI ((t + kk : Nat) : Int), z3, z4] [] D')) :
    ∀ (m i : Nat) (D : DD) (z3 : VV), i + m = kk → (∀ c, c ≠ 709 → c ≠ 710 → c ≠ 730 → D c = D0 c) → RF 244 246 244 246 D0 D → (∀ i' : Nat, i' < i → ∃ p, p < n ∧ D 730 ((t + i' : Nat) : Int) = pl p ∧ cum (fun j => r j ≤ (t : Int)) R pl p ≤ (i' : Rat) * s ∧ (i' : Rat) * s < cum (fun j => r j ≤ (t : Int)) R pl (p + 1)) → (∀ u : Int, ¬ ((t : Int) ≤ u ∧ u < ((t + i : Nat) : Int)) → D 730 u = D0 730 u) →
      Sg g M_Mo_workAhead Q 40 [vR 708, vI t, vI ((t + kk : Nat) : Int), z3, vI i] [] D := by
  have hn := f.1
  intro m
  induction m with
  | zero =>
    intro i D z3 hm C F W O
    obtain rfl : i = kk := by omega
    exact s_Mo_workAhead_40 ⟨by unfold R32; omega, fun _ => hk D _ _ C F W O, fun q => by omega⟩
  | succ m ih =>
    intro i D z3 hm C F W O
    have jm : JM D n r d w := h0.of (by rw [C 708 (by omega) (by omega) (by omega)]) fun c c1 c2 => C c (by omega) (by omega) (by omega)
    refine s_Mo_workAhead_40 ⟨by unfold R32; omega, fun q => by omega, fun _ => ⟨by unfold R32; omega, ?_⟩⟩
    have lt : (i : Rat) * s < cum (fun j => r j ≤ (t : Int)) R pl n := by
      have e1 : ((i + 1 : Nat) : Rat) ≤ (kk : Rat) := Rat.natCast_le_natCast.mpr (by omega)
      have e2 : ((i + 1 : Nat) : Rat) = (i : Rat) + 1 := by rw [Rat.natCast_add]; rfl
      rw [e2] at e1
      have := Rat.mul_le_mul_of_nonneg_right e1 (Rat.le_of_lt hs)
      grind
    refine (whoAt_ok f jm hR (hv.rf hn F (by omega)) dead (by omega) (k := i) (by omega) hs hbv (hb.rw F (by omega)) hb2 lt).mono fun y D2 r2 => ?_
    obtain ⟨F2, p, q1, q2, q3, q4⟩ := r2
    rw [show (t : Int) + (i : Int) = ((t + i : Nat) : Int) by omega]
    refine s_Mo_workAhead_63 ⟨by omega, fun D3 e3 => ⟨by unfold R32; omega, ih (i + 1) D3 _ (by omega) (fun c c1 c2 c3 => ?_) (F.tr (F2.rows.tr (RF.off (by rw [e3, zw_off (by omega)]) (by rw [e3, zw_off (by omega)])))) (fun i' hi' => ?_) (fun u hu => ?_)⟩⟩
    · rw [e3, zw_off c3, F2.1 c c1 c2]; exact C c c1 c2 c3
    · rcases (show i' = i ∨ i' < i by omega) with y | y
      · rw [y, e3, zw_eq]; exact ⟨p, q1, q2, q3, q4⟩
      · obtain ⟨p', x1, x2⟩ := W i' y
        exact ⟨p', x1, by rw [e3, zw_ne (Or.inr (by omega)), F2.1 730 (by omega) (by omega)]; exact x2⟩
    · rw [e3, zw_ne (Or.inr (by omega)), F2.1 730 (by omega) (by omega)]; exact O u (by omega)
theorem workAhead_ok (f : JF n r d w pl) (h0 : JM D n r d w) (hR : ∀ j, j < n → 0 ≤ R j ∧ R j ≤ 1000) (hv : MFS D n R c v) (dead : ∀ j, j < n → d j ≤ (t : Int) → R j = 0) {kk : Nat} {s : Rat} {bv len : Int} (ht : t < 200) (hkk : t + kk ≤ 200) (hl : 0 < len ∧ len ≤ 200) (hs : 0 < s) (hbv : (bv : Rat) = s * ((c * len : Int) : Rat)) (hb : Mn D 243 bv) (hb0 : 0 < bv ∧ bv ≤ 12000 * c) (hc200 : c * len < 2 ^ 200)
    (hel : ∀ q, q < n → r (pl q) ≤ (t : Int) → R' (pl q) = max (cum (fun j => r j ≤ (t : Int)) R pl (q + 1) - (kk : Rat) * s) 0 - max (cum (fun j => r j ≤ (t : Int)) R pl q - (kk : Rat) * s) 0) (hno : ∀ j, j < n → ¬ r j ≤ (t : Int) → R' j = R j) (hfull : (kk : Rat) * s ≤ cum (fun j => r j ≤ (t : Int)) R pl n) :
    CV g M_Mo_workAhead [vR 708, vI t, vI ((t + kk : Nat) : Int), vI len] D (fun D' => ∃ D1, (∀ c, c ≠ 709 → c ≠ 710 → c ≠ 730 → D1 c = D c) ∧ RF 230 253 230 253 D D1 ∧ (∀ i : Nat, i < kk → ∃ p, p < n ∧ D1 730 ((t + i : Nat) : Int) = pl p ∧ cum (fun j => r j ≤ (t : Int)) R pl p ≤ (i : Rat) * s ∧ (i : Rat) * s < cum (fun j => r j ≤ (t : Int)) R pl (p + 1)) ∧ (∀ u : Int, ¬ ((t : Int) ≤ u ∧ u < ((t + kk : Nat) : Int)) → D1 730 u = D 730 u) ∧ WXM n r pl t kk s R R' (c * len) D1 D') := by
  have mb := MB200
  have hn := f.1
  have hpl := f.2.2.2
  have hc := hv.2.1
  have hK : 0 < c * len := Int.mul_pos hc hl.1
  have vb : ∀ j, j < n → 0 ≤ v j ∧ v j ≤ 1000 * c := fun j hj => int_bd (hv.2.2.2 j hj).2 (hR j hj).1 (B := 1000) (by
    have e3 : ((1000 : Int) : Rat) = 1000 := rfl
    rw [e3]; exact (hR j hj).2) hc
  have p1 := pow200' (k := 1000 * 200) ⟨hc, hv.2.2.1⟩ (by omega)
  have p2 := pow200' (k := 12000 * 200) ⟨hc, hv.2.2.1⟩ (by omega)
  have pe2 : 12000 * c * 200 = 12000 * 200 * c := by ac_rfl
  have b200 : bv * 200 ≤ 12000 * c * 200 := Int.mul_le_mul_of_nonneg_right hb0.2 (by omega)
  have cl : c ≤ c * len := by
    have := Int.mul_le_mul_of_nonneg_left (show 1 ≤ len by omega) (show 0 ≤ c by omega)
    rwa [Int.mul_one] at this
  have c200p := pow200' (k := 1) ⟨hK, hc200⟩ (by omega)
  refine CV.intro mc_Mo_workAhead (Nat.le_of_ble_eq_true rfl) rfl (s_Mo_workAhead_0 (wa_mul f h0 hl hv.1 (by omega) (fun j hj => (hv.2.2.2 j hj).1) (fun j hj => ?_) (fun D1 z3 z4 F1' m242 mv => s_Mo_workAhead_37 ?_) n 0 D (by omega) FM.rf fun i hi => ⟨fun z => by omega, fun _ => (hv.2.2.2 i hi).1⟩))
  · have b := vb j hj
    have : v j * len ≤ 1000 * c * 200 := Int.mul_le_mul b.2 hl.2 (by omega) (by omega)
    have e : 1000 * c * 200 = 1000 * 200 * c := by ac_rfl
    omega
  · have jm1 : JM D1 n r d w := h0.of (by rw [F1'.1 708 (by omega) (by omega)]) fun c c1 c2 => F1'.1 c (by omega) (by omega)
    have hv1 : MFS D1 n R (c * len) (fun j => v j * len) := ⟨m242, hK, hc200, fun j hj => ⟨mv j hj, by rw [Rat.intCast_mul, (hv.2.2.2 j hj).2, Rat.intCast_mul]; grind⟩⟩
    have hb1 : Mn D1 243 bv := hb.fm F1' (by omega)
    refine wa_who (v := fun j => v j * len) f jm1 hR hv1 dead hkk hs hbv hb1 (by omega) hfull (fun D2 z3 z4 C2 F2 W2 O2 => ?_) kk 0 D1 _ (by omega) (fun _ _ _ _ => rfl) RF.rf (fun i hi => by omega) (fun _ _ => rfl)
    have hv2 := hv1.rf hn F2 (by omega)
    have hb2 := hb1.rw F2 (by omega)
    have bk : bv * (kk : Int) ≤ bv * 200 := Int.mul_le_mul_of_nonneg_left (by omega) (by omega)
    refine (mcopy_ok (a := 243) (b := 246) (by omega) (by omega) (by omega) hb2).mono fun D3 r3 => s_Mo_workAhead_80 ⟨by unfold R32; omega, ?_⟩
    rw [show ((t + kk : Nat) : Int) - (t : Int) = (kk : Int) by omega]
    refine (mtimes_ok (n := 246) (by omega) r3.1 (by omega) (by omega)).mono fun D4 r4 => s_Mo_workAhead_90 fun D5 e5 => ?_
    have F5 : FM 246 248 246 248 D2 D5 := ((FM.f1 r3.2 (by omega)).tr (FM.f1 r4.2 (by omega))).tr (by rw [e5]; exact FM.f1 F1.w0 (by omega))
    have f247 : F1 247 D4 D5 := by rw [e5]; exact F1.w0
    have jm2 : JM D2 n r d w := jm1.of (by rw [C2 708 (by omega) (by omega) (by omega)]) fun c c1 c2 => C2 c (by omega) (by omega) (by omega)
    have jm5 : JM D5 n r d w := jm2.of (by rw [F5.1 708 (by omega) (by omega)]) fun c c1 c2 => F5.1 c (by omega) (by omega)
    refine (inOrder_ok f jm5 (by omega) (by omega)).mono fun y D6 r6 => s_Mo_workAhead_105 ?_
    obtain ⟨rfl, io⟩ := r6
    have hv5 := hv2.rf hn F5.rows (by omega)
    have start : WMA n r pl t kk s R (c * len) bv (fun j => v j * len) D2 D6 0 (bv * kk) 0 := by
      refine ⟨fun c c1 c2 => F5.1 c c1 c2, F5.rows.mono fun m _ _ => by omega, hv5.1, hb2.fm F5 (by omega), ⟨r4.1.f1 f247 (by omega), ?_⟩, ⟨by rw [e5]; exact mn_zero, by rw [cum_0, Rat.zero_mul]; rfl⟩, fun q hq => ?_, fun q _ q0 => by omega, fun q hq _ => ?_, ?_⟩
      · rw [cum_0, Rat.intCast_mul, hbv, show (((kk : Nat) : Int) : Rat) = (kk : Rat) from rfl]; grind
      · rw [if_neg (by omega)]; exact (hv5.2.2.2 _ (hpl.1 q hq)).1
      · have := hpl.1 q hq
        exact F5.rows.r2 (by omega)
      · rw [cum_0]; exact Rat.mul_nonneg Rat.natCast_nonneg (Rat.le_of_lt hs)
    refine zg_post (workAhead_loop (R' := R') f jm2 hR (fun j hj => (hv1.2.2.2 j hj).2) ⟨hK, hc200⟩ dead ht hs hbv ⟨hb0.1, by omega⟩ hel hno hfull n 0 y _ _ D6 _ _ (by omega) (by omega) start io) ?_
    rintro _ _ D' ⟨q1, q2, q3⟩
    refine ⟨q1, q2, D2, fun c c1 c2 c3 => (C2 c c1 c2 c3).trans (F1'.1 c c1 c2), (F1'.rows.mono fun m _ _ => by omega).tr (F2.mono fun m _ _ => by omega), W2, fun u hu => ?_, q3⟩
    rw [O2 u hu, F1'.1 730 (by omega) (by omega)]
end MAH5
