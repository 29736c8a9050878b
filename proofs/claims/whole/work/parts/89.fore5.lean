/-! Foresight: workOff -/
section FORE5
variable {g : GG} {D D0 : DD} {n a : Nat} {r d w : Nat → Int} {pl : Nat → Nat} {R R' : Nat → Rat} {c : Int} {v : Nat → Int}
theorem workOff_loop2 (k : zk a = (0, 5, 0)) (f : JF n r d w pl) (h0 : JC D0 n r d w pl) (hv : FS D0 n R c v) (hR : ∀ j, j < n → 0 ≤ R j ∧ R j ≤ 1000) {now kk : Nat} {aim dv : Int} {s : Rat} (hs : 0 < s) (hk : 1 ≤ kk ∧ (kk : Int) ≤ aim ∧ aim ≤ 200) (hnow : now + kk ≤ 200)
    (dead : ∀ j, j < n → d j ≤ (now : Int) → R j = 0) (hdv : (dv : Rat) = s * ((c * aim : Int) : Rat)) (hdb : 0 < dv ∧ dv ≤ 12000 * c) (hd0 : Na D0 534 dv)
    (hel : ∀ q, q < n → r (pl q) ≤ (now : Int) → R' (pl q) = max (cum (fun j => r j ≤ (now : Int)) R pl (q + 1) - (kk : Rat) * s) 0 - max (cum (fun j => r j ≤ (now : Int)) R pl q - (kk : Rat) * s) 0) (hno : ∀ j, j < n → ¬ r j ≤ (now : Int) → R' j = R j)
    (hcb : (kk : Int) < aim → c * aim < 2 ^ 90) (hfull : (kk : Rat) * s ≤ cum (fun j => r j ≤ (now : Int)) R pl n) (hex : (kk : Int) = aim → ∃ m, m ≤ n ∧ cum (fun j => r j ≤ (now : Int)) R pl m = (kk : Rat) * s) :
    ∀ (m p i : Nat) (Sv : Int) (D : DD) (z9 : VV), p + m = n → WF n r pl a now kk s R (c * aim) dv v D0 D p i Sv →
      Sg g M_Fo_workOff (rV (fun D' => WX n r pl a now kk s R R' c aim D0 D')) 55 [vR 530, vR 1, vR a, vI now, vI ((now + kk : Nat) : Int), vI aim, vI (-1), vI ((now + i : Nat) : Int), vI p, z9] [] D := by
  have hn := f.1
  have hpl := f.2.2.2
  have pa := pr_at k
  have hR0 : ∀ j, j < n → 0 ≤ R j := fun j hj => (hR j hj).1
  have hc := hv.2.1
  have c90 : 0 < c ∧ c < 2 ^ 90 := ⟨hc, hv.2.2.1⟩
  have cq : (0 : Rat) < (c : Rat) := Rat.intCast_pos.mpr hc
  have bb := BB130
  have hK : 0 < c * aim := Int.mul_pos hc (by omega)
  have Kq : (0 : Rat) < ((c * aim : Int) : Rat) := Rat.intCast_pos.mpr hK
  have b201 := pow90 (k := 12000 * 201) c90 (by omega)
  have mono : ∀ q q', q ≤ q' → q' ≤ n → cum (fun j => r j ≤ (now : Int)) R pl q ≤ cum (fun j => r j ≤ (now : Int)) R pl q' := fun q q' h1 h2 => cum_mono hpl hR0 h1 h2
  have room : ∀ {C : Rat} {S : Int}, (S : Rat) = C * ((c * aim : Int) : Rat) → (S < dv * (kk : Int) ↔ C < (kk : Rat) * s) ∧ (dv * (kk : Int) < S ↔ (kk : Rat) * s < C) := fun {C S} h => by
    have e : ((dv * (kk : Int) : Int) : Rat) = (kk : Rat) * s * ((c * aim : Int) : Rat) := by
      rw [Rat.intCast_mul, hdv, show (((kk : Nat) : Int) : Rat) = (kk : Rat) from rfl]; grind
    constructor
    · rw [← Rat.intCast_lt_intCast, h, e]; exact Rat.mul_lt_mul_right Kq
    · rw [← Rat.intCast_lt_intCast, h, e]; exact Rat.mul_lt_mul_right Kq
  have geo5 : ∀ q c' : Nat, q < 12 → a + 131 + 5 * q ≤ c' → c' < a + 131 + 5 * q + 5 → (c' < 536 ∨ 542 ≤ c') ∧ (c' < 549 ∨ 573 ≤ c') ∧ c' ≠ a + 5 ∧ a + 131 ≤ c' ∧ c' < a + 191 := fun q c' h1 h2 h3 => by omega
  have sep : ∀ q q' c' : Nat, q ≠ q' → a + 131 + 5 * q ≤ c' → c' < a + 131 + 5 * q + 5 → (c' < a + 131 + 5 * q' ∨ a + 136 + 5 * q' ≤ c') := fun q q' c' h1 h2 h3 => by omega
  have zero_v : ∀ j, j < n → R j = 0 → v j = 0 := fun j hj z => by
    have e := (hv.2.2.2 j hj).2
    rw [z, Rat.zero_mul] at e
    exact Rat.intCast_eq_zero_iff.mp e
  -- the end without a broken one
  have fin : ∀ (p i : Nat) (Sv : Int) (D : DD), p ≤ n → WF n r pl a now kk s R (c * aim) dv v D0 D p i Sv → (kk : Rat) * s ≤ cum (fun j => r j ≤ (now : Int)) R pl p → WX n r pl a now kk s R R' c aim D0 D := by
    intro p i Sv D hp h hge
    obtain ⟨w1, w2, w3, w4, w5, w6, w7, w8, w9, w10, w11, w12⟩ := h
    have ce : cum (fun j => r j ≤ (now : Int)) R pl p = (kk : Rat) * s := Rat.le_antisymm w12 hge
    have ik : i = kk := by
      rcases w11 with y | y
      · refine Decidable.byContradiction fun z => ?_
        have e1 : ((i + 1 : Nat) : Rat) ≤ (kk : Rat) := Rat.natCast_le_natCast.mpr (by omega)
        have e2 : ((i + 1 : Nat) : Rat) = (i : Rat) + 1 := by rw [Rat.natCast_add]; rfl
        rw [e2] at e1
        have e3 := Rat.mul_le_mul_of_nonneg_right e1 (Rat.le_of_lt hs)
        rw [ce] at y
        grind
      · exact y
    subst ik
    have Re : ∀ q, q < n → R' (pl q) = if q < p ∧ r (pl q) ≤ (now : Int) then 0 else R (pl q) := fun q hq => by
      rcases Classical.em (r (pl q) ≤ (now : Int)) with y | y
      · rw [hel q hq y]
        have c1 := cum_t (R := R) (pl := pl) (el := fun j => r j ≤ (now : Int)) (p := q) y
        rcases Nat.lt_or_ge q p with z | z
        · rw [if_pos ⟨z, y⟩]
          have a1 := mono (q + 1) p (by omega) hp
          have a2 := mono q p (by omega) hp
          grind
        · rw [if_neg (by omega)]
          have a1 := mono p q z (by omega)
          have a2 := mono p (q + 1) (by omega) (by omega)
          rw [c1] at a2 ⊢
          grind
      · rw [if_neg (fun z => y z.2)]; exact hno _ (hpl.1 q hq) y
    refine ⟨fun c' c1 c2 c3 c4 => w1 c' (by omega) c2 c3 c4, ⟨c, fun j => if R' j = 0 then 0 else v j, ⟨?_, hc, hv.2.2.1, fun j hj => ?_⟩, Or.inl rfl⟩, fun q hq y r0 hc' => w6 q hq ?_ y r0, fun q hq z => w7 q hq ?_, fun _ i' hi' => w8 i' hi', fun u hu => w9 u ?_⟩
    · exact hv.1.of (w1 532 (by omega) (by omega) (by omega) (by omega)) (w1 533 (by omega) (by omega) (by omega) (by omega))
    · obtain ⟨q, hq, rfl⟩ := hpl.2.2 j hj
      have e := w5 q hq
      have e2 := hv.2.2.2 (pl q) hj
      have re := Re q hq
      show Na D _ (if R' (pl q) = 0 then 0 else v (pl q)) ∧ ((if R' (pl q) = 0 then 0 else v (pl q) : Int) : Rat) = _
      rcases Classical.em (q < p ∧ r (pl q) ≤ (now : Int)) with y | y
      · rw [if_pos y] at e re
        rw [if_pos re, re, Rat.zero_mul]
        exact ⟨e, rfl⟩
      · rw [if_neg y] at e re
        rcases Classical.em (R' (pl q) = 0) with z | z
        · rw [if_pos z, z, Rat.zero_mul]
          rw [z] at re
          rw [zero_v _ hj re.symm] at e
          exact ⟨e, rfl⟩
        · rw [if_neg z, re]
          exact ⟨e, e2.2⟩
    · refine Decidable.byContradiction fun z => ?_
      have a1 := mono p q (by omega) (by omega)
      have c1 := cum_t (R := R) (pl := pl) (el := fun j => r j ≤ (now : Int)) (p := q) y
      rw [c1] at hc'
      grind
    · rcases Nat.lt_or_ge q p with y | y
      · refine Or.inr fun x => z ⟨x.1, x.2, ?_⟩
        rw [← ce]
        exact mono (q + 1) p (by omega) hp
      · exact Or.inl y
    · exact fun x => hu ⟨hs, x⟩
  intro m
  induction m with
  | zero =>
    intro p i Sv D z9 hm h
    obtain rfl : p = n := by omega
    have h1 : D 1 0 = p := by rw [h.1 1 (by omega) (by omega) (by omega) (by omega)]; exact h0.1
    exact s_Fo_workOff_55 k ⟨fun _ => s_Fo_workOff_261 ⟨fun _ => retV (fin p i Sv D (by omega) h hfull), fun q => absurd rfl q⟩, fun q => by omega⟩
  | succ m ih =>
    intro p i Sv D z9 hm h
    have hp : p < n := by omega
    obtain ⟨w1, w2, w3, w4, w5, w6, w7, w8, w9, w10, w11, w12⟩ := id h
    have h1 : D 1 0 = n := by rw [w1 1 (by omega) (by omega) (by omega) (by omega)]; exact h0.1
    refine s_Fo_workOff_55 k ⟨fun q => by omega, fun _ => (order_ok (a := 536) (b := 540) zf_536 zf_540 w2.1 w4).mono fun y D2 r2 => ?_⟩
    obtain ⟨rfl, rfl⟩ := r2
    have rm := room w2.2
    refine s_Fo_workOff_75 k ⟨fun q => s_Fo_workOff_261 ⟨fun _ => retV (fin p i Sv D2 (by omega) h ?_), fun q => absurd rfl q⟩, fun q => ⟨by omega, ?_⟩⟩
    · refine Rat.not_lt.mp fun z => ?_
      have := rm.1.mpr z
      unfold scmp at q
      rw [if_pos this] at q
      omega
    have clt : cum (fun j => r j ≤ (now : Int)) R pl p < (kk : Rat) * s := by
      refine rm.1.mp ?_
      unfold scmp at q
      split at q
      · assumption
      · split at q <;> omega
    have hj := hpl.1 p hp
    have hj12 : pl p < 12 := by omega
    have j1 : JC D2 n r d w pl := h0.of fun c' c1 c2 => w1 c' (by omega) (by omega) (by omega) (by omega)
    have h5 := j1.2.2 p hp
    have nv := w5 p hp
    rw [if_neg (by omega)] at nv
    obtain ⟨_, ev⟩ := hv.2.2.2 (pl p) hj
    rw [h5]
    refine (isOpen_ok f j1 hj nv).mono fun y D3 r3 => ?_
    obtain ⟨rfl, rfl⟩ := r3
    have k1 := zk_left (j := pl p) hj12
    refine s_Fo_workOff_95 k ⟨fun q2 => ⟨by omega, ?_⟩, fun q2 => s_Fo_workOff_255 k ⟨by unfold R32; omega, ?_⟩⟩
    · -- open
      have op : r (pl p) ≤ (now : Int) ∧ (now : Int) < d (pl p) ∧ v (pl p) ≠ 0 := Decidable.byContradiction fun z => by rw [if_neg z] at q2; omega
      have Rp : 0 < R (pl p) := by
        rcases Rat.le_iff_lt_or_eq.mp (hR0 _ hj) with z | z
        · exact z
        · exact absurd (zero_v _ hj z.symm) op.2.2
      have c1 := cum_t (R := R) (pl := pl) (el := fun j => r j ≤ (now : Int)) (p := p) op.1
      have es1 : ((Sv + v (pl p) * aim : Int) : Rat) = cum (fun j => r j ≤ (now : Int)) R pl (p + 1) * ((c * aim : Int) : Rat) := by rw [Rat.intCast_add, w2.2, Rat.intCast_mul (v (pl p)), ev, c1, Rat.intCast_mul c]; grind
      have sb := int_bd es1 (cum_nn hpl hR0 (by omega)) (cum12 hpl (by omega) hn hR) hK
      have s0 := int_bd w2.2 (cum_nn hpl hR0 (by omega)) (cum12 hpl (by omega) hn hR) hK
      have m1 := pow90 (k := 12000 * aim) c90 (by omega)
      have m1e : 12000 * (c * aim) = 12000 * aim * c := by ac_rfl
      have room1 := room es1
      rw [Int.toNat_natCast]
      refine (times_ok k1 nv (by omega) (by omega)).mono fun D4 r4 => s_Fo_workOff_113 k ⟨by omega, ?_⟩
      rw [Int.toNat_natCast]
      refine (add_ok (a := 536) zf_536 k1 (by omega) (w2.1.far r4.2 (by omega)) r4.1 (by omega)).mono fun D5 r5 => ?_
      have b1 : dv * 201 ≤ 12000 * c * 201 := Int.mul_le_mul_of_nonneg_right hdb.2 (by omega)
      have b2 : 12000 * c * 201 = 12000 * 201 * c := by ac_rfl
      have hd5 : Na D5 534 dv := ((hd0.of (w1 534 (by omega) (by omega) (by omega) (by omega)) (w1 535 (by omega) (by omega) (by omega) (by omega))).far r4.2 (by omega)).far r5.2 (by omega)
      have c5 : ∀ c', c' ≠ 536 → c' ≠ 537 → c' ≠ 549 + 2 * pl p → c' ≠ 550 + 2 * pl p → D5 c' = D3 c' := fun c' x1 x2 x3 x4 => by rw [r5.2 c' x1 (by omega), r4.2 c' x3 (by omega)]
      refine workOff_inner (i0 := i) k hj12 hnow es1 hK hdv ⟨hdb.1, by omega⟩ hd5 r5.1 (fun i' D6 x1 x2 x3 x4 x5 x6 x7 => ?_) (kk - i) i D5 (by omega) (Nat.le_refl i) (fun _ _ _ _ => rfl) ((w3.far r4.2 (by omega)).far r5.2 (by omega)) (fun u u1 u2 => by omega) (fun _ _ => rfl)
      have s6 : Na D6 536 (Sv + v (pl p) * aim) := r5.1.of (x4 536 (by omega) (by omega) (by omega)) (x4 537 (by omega) (by omega) (by omega))
      have r6 : Na D6 540 (dv * kk) := ((w4.far r4.2 (by omega)).far r5.2 (by omega)).of (x4 540 (by omega) (by omega) (by omega)) (x4 541 (by omega) (by omega) (by omega))
      have d6 : Na D6 534 dv := hd5.of (x4 534 (by omega) (by omega) (by omega)) (x4 535 (by omega) (by omega) (by omega))
      -- frames up to here
      have F6 : ∀ c', (c' < 536 ∨ 542 ≤ c') → (c' < 549 ∨ 573 ≤ c') → c' ≠ a + 5 → D6 c' = D3 c' := fun c' y1 y2 y3 => by rw [x4 c' y3 (by omega) (by omega), c5 c' (by omega) (by omega) (by omega) (by omega)]
      have a5 : ∀ u : Int, D5 (a + 5) u = D3 (a + 5) u := fun u => by rw [c5 (a + 5) (by omega) (by omega) (by omega) (by omega)]
      have left6 : ∀ q, q < n → q ≠ p → Na D6 (549 + 2 * pl q) (if q < p ∧ r (pl q) ≤ (now : Int) then 0 else v (pl q)) := fun q hq hqp => by
        have ne : pl q ≠ pl p := fun z => hqp (hpl.inj hq hp z)
        have h12 := hpl.1 q hq
        have e := ((w5 q hq).far r4.2 (by omega)).far r5.2 (by omega)
        exact e.of (x4 _ (by omega) (by omega) (by omega)) (x4 _ (by omega) (by omega) (by omega))
      have wk6 : ∀ i'' : Nat, i'' < i' → ∃ q, q < n ∧ D6 (a + 5) ((now + i'' : Nat) : Int) = pl q ∧ cum (fun j => r j ≤ (now : Int)) R pl q ≤ (i'' : Rat) * s ∧ (i'' : Rat) * s < cum (fun j => r j ≤ (now : Int)) R pl (q + 1) := fun i'' hi'' => by
        rcases Nat.lt_or_ge i'' i with y | y
        · obtain ⟨q, y1, y2, y3⟩ := w8 i'' y
          exact ⟨q, y1, by rw [x7 _ (by omega), a5]; exact y2, y3⟩
        · have z := x6 i'' y hi''
          refine ⟨p, hp, z.1, ?_, z.2⟩
          rcases w11 with x | x
          · have e1 : ((i : Nat) : Rat) ≤ (i'' : Rat) := Rat.natCast_le_natCast.mpr y
            exact Rat.le_trans x (Rat.mul_le_mul_of_nonneg_right e1 (Rat.le_of_lt hs))
          · omega
      have ot6 : ∀ u : Int, ¬ ((now : Int) ≤ u ∧ u < ((now + i' : Nat) : Int)) → D6 (a + 5) u = D0 (a + 5) u := fun u hu => by
        rw [x7 u (by omega), a5]; exact w9 u (by omega)
      refine s_Fo_workOff_187 k ((order_ok (a := 536) (b := 540) zf_536 zf_540 s6 r6).mono fun y D7 r7 => ?_)
      obtain ⟨rfl, rfl⟩ := r7
      have kdone := zk_done k hj12
      refine s_Fo_workOff_198 k ⟨fun q3 => ⟨by omega, ?_⟩, fun q3 => ⟨by omega, ?_⟩⟩
      · -- done
        have le : cum (fun j => r j ≤ (now : Int)) R pl (p + 1) ≤ (kk : Rat) * s := by
          refine Rat.not_lt.mp fun z => ?_
          have := room1.2.mpr z
          unfold scmp at q3
          rw [if_neg (by omega), if_pos this] at q3
          omega
        rw [Int.toNat_natCast]
        refine (setSmall_ok k1 (x := 0) (by omega)).mono fun D8 r8 => s_Fo_workOff_247 k ?_
        have bn : dv * (now : Int) ≤ 12000 * c * 200 := Int.mul_le_mul hdb.2 (by omega) (by omega) (Int.mul_nonneg (by omega) (by omega))
        have bn0 := Int.mul_nonneg (show 0 ≤ dv by omega) (show (0 : Int) ≤ now by omega)
        have bn2 : 12000 * c * 200 = 12000 * 200 * c := by ac_rfl
        have m2 := pow90 (k := 12000 * 200) c90 (by omega)
        have m3 := pow90 (k := 12000 * 200 + 12000 * aim) c90 (by omega)
        have m3e : (12000 * 200 + 12000 * aim) * c = 12000 * 200 * c + 12000 * aim * c := Int.add_mul _ _ _
        refine (setEnd_ok k hj12 (d6.far r8.2 (by omega)) (s6.far r8.2 (by omega)) hdb.1 (by omega) (by omega) (by omega)).mono fun D9 r9 => s_Fo_workOff_255 k ⟨by unfold R32; omega, ?_⟩
        have F9 : ∀ c', c' ≠ 549 + 2 * pl p → c' ≠ 550 + 2 * pl p → (c' < a + 131 + 5 * pl p ∨ a + 136 + 5 * pl p ≤ c') → D9 c' = D7 c' := fun c' y1 y2 y3 => by rw [r9.2 c' y3 y3, r8.2 c' y1 (by omega)]
        refine ih (p + 1) i' _ D9 _ (by omega) ⟨fun c' y1 y2 y3 y4 => ?_, ⟨?_, es1⟩, ?_, ?_, fun q hq => ?_, fun q hq q4 q5 q6 => ?_, fun q hq q4 c' y1 y2 => ?_, fun i'' hi'' => ?_, fun u hu => ?_, x2, x3, le⟩
        · rw [F9 c' (by omega) (by omega) (by omega), F6 c' y1 y2 y3]; exact w1 c' y1 y2 y3 y4
        · exact s6.of (F9 536 (by omega) (by omega) (by omega)) (F9 537 (by omega) (by omega) (by omega))
        · exact x5.of (F9 538 (by omega) (by omega) (by omega)) (F9 539 (by omega) (by omega) (by omega))
        · exact r6.of (F9 540 (by omega) (by omega) (by omega)) (F9 541 (by omega) (by omega) (by omega))
        · rcases (show q = p ∨ q ≠ p by omega) with z | z
          · subst z
            rw [if_pos ⟨by omega, op.1⟩]
            exact r8.1.of (r9.2 _ (by omega) (by omega)) (r9.2 _ (by omega) (by omega))
          · have ne : pl q ≠ pl p := fun y => z (hpl.inj hq hp y)
            have h12 := hpl.1 q hq
            have e := left6 q hq z
            have e2 : (if q < p + 1 ∧ r (pl q) ≤ (now : Int) then (0 : Int) else v (pl q)) = if q < p ∧ r (pl q) ≤ (now : Int) then 0 else v (pl q) := by
              rcases Classical.em (q < p ∧ r (pl q) ≤ (now : Int)) with y | y
              · rw [if_pos y, if_pos ⟨by omega, y.2⟩]
              · rw [if_neg y, if_neg (fun x => y ⟨by omega, x.2⟩)]
            rw [e2]
            exact e.of (F9 _ (by omega) (by omega) (by omega)) (F9 _ (by omega) (by omega) (by omega))
        · rcases (show q = p ∨ q < p by omega) with z | z
          · subst z
            refine ⟨dv * now + (Sv + v (pl q) * aim), dv, r9.1, hdb.1, by omega, by omega, ?_⟩
            rw [Rat.intCast_add, Rat.intCast_mul, es1, hdv, show (((now : Nat) : Int) : Rat) = (now : Rat) from rfl]
            generalize cum (fun j => r j ≤ (now : Int)) R pl (q + 1) = C
            generalize ((c * aim : Int) : Rat) = K at Kq
            have k0 : K ≠ 0 := fun z => by rw [z] at Kq; exact absurd Kq Rat.lt_irrefl
            have s0 : s ≠ 0 := fun z => by rw [z] at hs; exact absurd hs Rat.lt_irrefl
            grind
          · obtain ⟨P, Q, y1, y2⟩ := w6 q hq z q5 q6
            have ne : pl q ≠ pl p := fun y => by have := hpl.inj hq hp y; omega
            have h12 := hpl.1 q hq
            have cell : ∀ c', a + 131 + 5 * pl q ≤ c' → c' < a + 131 + 5 * pl q + 5 → D9 c' = D3 c' := fun c' u1 u2 => by
              have g5 := geo5 (pl q) c' (by omega) u1 u2
              have sp := sep _ _ c' ne u1 u2
              rw [F9 c' (by omega) (by omega) sp, F6 c' g5.1 g5.2.1 g5.2.2.1]
            exact ⟨P, Q, ⟨y1.1.of (cell _ (by omega) (by omega)) (cell _ (by omega) (by omega)), y1.2.of (cell _ (by omega) (by omega)) (cell _ (by omega) (by omega))⟩, y2⟩
        · have hqp : q ≠ p := fun z => by
            subst z
            rcases q4 with q4 | q4
            · omega
            · exact q4 ⟨op.1, Rp⟩
          have ne : pl q ≠ pl p := fun y => hqp (hpl.inj hq hp y)
          have h12 := hpl.1 q hq
          have g5 := geo5 (pl q) c' (by omega) y1 (by omega)
          have sp := sep _ _ c' ne y1 (by omega)
          rw [F9 c' (by omega) (by omega) sp, F6 c' g5.1 g5.2.1 g5.2.2.1]
          refine w7 q hq ?_ c' y1 y2
          rcases q4 with q4 | q4
          · exact Or.inl (by omega)
          · exact Or.inr q4
        · rw [F9 (a + 5) (by omega) (by omega) (by omega)]; exact wk6 i'' hi''
        · rw [F9 (a + 5) (by omega) (by omega) (by omega)]; exact ot6 u hu
      · -- broken
        have gt : (kk : Rat) * s < cum (fun j => r j ≤ (now : Int)) R pl (p + 1) := by
          refine room1.2.mp ?_
          unfold scmp at q3
          split at q3
          · omega
          · split at q3
            · assumption
            · omega
        have gti := room1.2.mpr gt
        have ik : i' = kk := by
          rcases x3 with y | y
          · have e1 : ((i' : Nat) : Rat) ≤ (kk : Rat) := Rat.natCast_le_natCast.mpr x2
            have := Rat.mul_le_mul_of_nonneg_right e1 (Rat.le_of_lt hs)
            grind
          · exact y
        subst ik
        have ka : (i' : Int) < aim := by
          refine Decidable.byContradiction fun z => ?_
          obtain ⟨m', m1', m2'⟩ := hex (by omega)
          rcases Nat.lt_or_ge p m' with y | y
          · have := mono (p + 1) m' (by omega) m1'
            grind
          · have := mono m' p y (by omega)
            grind
        clear hex
        rw [Int.toNat_natCast]
        have ro0 := Int.mul_nonneg (show 0 ≤ dv by omega) (show (0 : Int) ≤ i' by omega)
        refine (copyFrom_ok k1 zf_536 s6).mono fun D8 r8 => s_Fo_workOff_215 k ⟨by omega, ?_⟩
        rw [Int.toNat_natCast]
        refine (takeOff_ok (b := 540) k1 zf_540 (by omega) r8.1 (r6.far r8.2 (by omega)) (by omega)).mono fun D9 r9 => s_Fo_workOff_229 k (s_Fo_workOff_255 k ⟨by unfold R32; omega, ?_⟩)
        have F9 : ∀ c', c' ≠ 549 + 2 * pl p → c' ≠ 550 + 2 * pl p → D9 c' = D7 c' := fun c' y1 y2 => by rw [r9.2 c' y1 (by omega), r8.2 c' y1 (by omega)]
        have s9 : Na D9 536 (Sv + v (pl p) * aim) := s6.of (F9 536 (by omega) (by omega)) (F9 537 (by omega) (by omega))
        have r9' : Na D9 540 (dv * i') := r6.of (F9 540 (by omega) (by omega)) (F9 541 (by omega) (by omega))
        have j9 : JC D9 n r d w pl := h0.of fun c' c1 c2 => by rw [F9 c' (by omega) (by omega), F6 c' (by omega) (by omega) (by omega)]; exact w1 c' (by omega) (by omega) (by omega) (by omega)
        have c9 : Na D9 532 c := by
          have e : ∀ c', 532 ≤ c' → c' < 534 → D9 c' = D0 c' := fun c' y1 y2 => by rw [F9 c' (by omega) (by omega), F6 c' (by omega) (by omega) (by omega)]; exact w1 c' (by omega) (by omega) (by omega) (by omega)
          exact hv.1.of (e 532 (by omega) (by omega)) (e 533 (by omega) (by omega))
        have Re : ∀ q, q < n → q ≠ p → R' (pl q) = if q < p ∧ r (pl q) ≤ (now : Int) then 0 else R (pl q) := fun q hq hqp => by
          rcases Classical.em (r (pl q) ≤ (now : Int)) with y | y
          · rw [hel q hq y]
            have c1 := cum_t (R := R) (pl := pl) (el := fun j => r j ≤ (now : Int)) (p := q) y
            rcases Nat.lt_or_ge q p with z | z
            · rw [if_pos ⟨z, y⟩]
              have a1 := mono (q + 1) p (by omega) (by omega)
              have a2 := mono q p (by omega) (by omega)
              grind
            · rw [if_neg (by omega)]
              have a1 := mono (p + 1) q (by omega) (by omega)
              have a2 := mono (p + 1) (q + 1) (by omega) (by omega)
              rw [c1] at a2 ⊢
              grind
          · rw [if_neg (fun z => y z.2)]; exact hno _ (hpl.1 q hq) y
        have Rpp : R' (pl p) = cum (fun j => r j ≤ (now : Int)) R pl (p + 1) - (i' : Rat) * s := by
          rw [hel p hp op.1]; grind
        have left9 : ∀ j, j < n → Na D9 (549 + 2 * j) (if j = pl p then Sv + v (pl p) * aim - dv * i' else if R' j = 0 then 0 else v j) := fun j hj' => by
          obtain ⟨q, hq, rfl⟩ := hpl.2.2 j hj'
          rcases (show q = p ∨ q ≠ p by omega) with z | z
          · subst z; rw [if_pos rfl]; exact r9.1
          · have ne : pl q ≠ pl p := fun y => z (hpl.inj hq hp y)
            rw [if_neg ne]
            have e := left6 q hq z
            have re := Re q hq z
            have e9 := e.of (F9 (549 + 2 * pl q) (by omega) (by omega)) (F9 (549 + 2 * pl q + 1) (by omega) (by omega))
            rcases Classical.em (q < p ∧ r (pl q) ≤ (now : Int)) with y | y
            · rw [if_pos y] at e9 re
              rw [if_pos re]; exact e9
            · rw [if_neg y] at e9 re
              rcases Classical.em (R' (pl q) = 0) with x | x
              · rw [if_pos x]
                rw [x] at re
                rw [zero_v _ hj' re.symm] at e9
                exact e9
              · rw [if_neg x]; exact e9
        have vb : ∀ j, j < n → 0 ≤ v j ∧ v j ≤ 1000 * c := fun j hj' => int_bd (hv.2.2.2 j hj').2 (hR j hj').1 (B := 1000) (by
          have e3 : ((1000 : Int) : Rat) = 1000 := rfl
          rw [e3]; exact (hR j hj').2) hc
        have m5 := pow90 (k := 1000 * aim) c90 (by omega)
        have m5e : 1000 * c * aim = 1000 * aim * c := by ac_rfl
        have m6 := pow90 (k := aim) c90 (by omega)
        have m6e : c * aim = aim * c := Int.mul_comm _ _
        have resc : CV g M_Fo_rescale [vR 530, vR 1, vI (pl p), vI aim] D9 (fun D' => WX n r pl a now i' s R R' c aim D0 D') := by
          refine (rescale_ok f j9 (b := pl p) (v := fun j => if j = pl p then Sv + v (pl p) * aim - dv * i' else if R' j = 0 then 0 else v j) (by omega) c9 (by omega) left9 (fun j hj' hne => ?_)).mono fun D10 r10 => ?_
          · show (if j = pl p then Sv + v (pl p) * aim - dv * i' else if R' j = 0 then 0 else v j) * aim < BB ^ 32
            have b := vb j hj'
            rw [if_neg hne]
            split
            · rw [Int.zero_mul]; omega
            · have : v j * aim ≤ 1000 * c * aim := Int.mul_le_mul_of_nonneg_right b.2 (by omega)
              omega
          · obtain ⟨G1, G2, G3⟩ := r10
            have fr : ∀ c', (c' < 532 ∨ (534 ≤ c' ∧ c' < 536) ∨ 542 ≤ c') → (c' < 549 ∨ 573 ≤ c') → c' ≠ a + 5 → D10 c' = D3 c' := fun c' y1 y2 y3 => by rw [G1 c' (by omega) (by omega), F9 c' (by omega) (by omega), F6 c' (by omega) y2 y3]
            have a10 : D10 (a + 5) = D7 (a + 5) := by rw [G1 (a + 5) (by omega) (by omega), F9 (a + 5) (by omega) (by omega)]
            have dcell : ∀ q c', q < 12 → a + 131 + 5 * q ≤ c' → c' < a + 131 + 5 * q + 5 → D10 c' = D3 c' := fun q c' h12 u1 u2 => by
              have g5 := geo5 q c' h12 u1 u2
              exact fr c' (by omega) g5.2.1 g5.2.2.1
            have qlt : ∀ q, q < n → r (pl q) ≤ (now : Int) → 0 < R (pl q) → cum (fun j => r j ≤ (now : Int)) R pl (q + 1) ≤ (i' : Rat) * s → q < p := fun q hq y r0 hc' => by
              refine Decidable.byContradiction fun z => ?_
              have := mono (p + 1) (q + 1) (by omega) (by omega)
              grind
            refine ⟨fun c' y1 y2 y3 y4 => by rw [fr c' y1 y2 y3]; exact w1 c' (by omega) y2 y3 y4, ⟨c * aim, fun j => if j = pl p then Sv + v (pl p) * aim - dv * i' else (if R' j = 0 then 0 else v j) * aim, ⟨G2, hK, hcb ka, fun j hj' => ?_⟩, Or.inr ⟨rfl, ka⟩⟩, fun q hq y r0 hc' => ?_, fun q hq z c' u1 u2 => ?_, fun _ i'' hi'' => by rw [a10]; exact wk6 i'' hi'', fun u hu => by rw [a10]; exact ot6 u fun x => hu ⟨hs, x⟩⟩
            · have e := G3 j hj'
              show Na D10 _ (if j = pl p then Sv + v (pl p) * aim - dv * i' else (if R' j = 0 then 0 else v j) * aim) ∧ ((if j = pl p then Sv + v (pl p) * aim - dv * i' else (if R' j = 0 then 0 else v j) * aim : Int) : Rat) = _
              rcases Classical.em (j = pl p) with z | z
              · rw [if_pos z, if_pos z] at e
                rw [if_pos z]
                refine ⟨e, ?_⟩
                rw [z, Rpp, Rat.intCast_sub, es1, Rat.intCast_mul dv, hdv, show (((i' : Nat) : Int) : Rat) = (i' : Rat) from rfl]
                grind
              · rw [if_neg z, if_neg z] at e
                rw [if_neg z]
                refine ⟨e, ?_⟩
                obtain ⟨q, hq, rfl⟩ := hpl.2.2 j hj'
                have re := Re q hq (fun y => z (by rw [y]))
                have e2 := (hv.2.2.2 _ hj').2
                rcases Classical.em (R' (pl q) = 0) with x | x
                · rw [if_pos x, x, Int.zero_mul, Rat.zero_mul]; rfl
                · rw [if_neg x]
                  split at re
                  · exact absurd re x
                  · rw [re, Rat.intCast_mul, e2, Rat.intCast_mul]; grind
            · obtain ⟨P, Q, y1, y2⟩ := w6 q hq (qlt q hq y r0 hc') y r0
              have h12 := hpl.1 q hq
              exact ⟨P, Q, ⟨y1.1.of (dcell (pl q) _ (by omega) (by omega) (by omega)) (dcell (pl q) _ (by omega) (by omega) (by omega)), y1.2.of (dcell (pl q) _ (by omega) (by omega) (by omega)) (dcell (pl q) _ (by omega) (by omega) (by omega))⟩, y2⟩
            · have h12 := hpl.1 q hq
              rw [dcell (pl q) c' (by omega) u1 (by omega)]
              refine w7 q hq ?_ c' u1 u2
              rcases Nat.lt_or_ge q p with y | y
              · refine Or.inr fun x => z ⟨x.1, x.2, ?_⟩
                have := mono (q + 1) p (by omega) (by omega)
                grind
              · exact Or.inl y
        have last : ∀ z2 z3 z4 z7 z8 z9, Sg g M_Fo_workOff (rV (fun D' => WX n r pl a now i' s R R' c aim D0 D')) 261 [vR 530, vR 1, z2, z3, z4, vI aim, vI (pl p), z7, z8, z9] [] D9 := fun z2 z3 z4 z7 z8 z9 => s_Fo_workOff_261 ⟨fun q => by omega, fun _ => resc.mono fun D' h' => s_Fo_workOff_276 (retV h')⟩
        refine s_Fo_workOff_55 k ⟨fun _ => last _ _ _ _ _ _, fun _ => (order_ok (a := 536) (b := 540) zf_536 zf_540 s9 r9').mono fun y D10 r10 => ?_⟩
        obtain ⟨rfl, rfl⟩ := r10
        refine s_Fo_workOff_75 k ⟨fun _ => last _ _ _ _ _ _, fun q4 => ?_⟩
        unfold scmp at q4
        rw [if_neg (by omega), if_pos gti] at q4
        omega
    · -- not open
      have no : ¬ (r (pl p) ≤ (now : Int) ∧ 0 < R (pl p)) := fun z => by
        have nd : (now : Int) < d (pl p) := Decidable.byContradiction fun y => by
          have e0 := dead _ hj (by omega)
          rw [e0] at z; exact absurd z.2 Rat.lt_irrefl
        have nz : v (pl p) ≠ 0 := fun y => by
          rw [y] at ev
          have ev : (0 : Rat) = R (pl p) * (c : Rat) := ev
          rcases Rat.mul_eq_zero.mp ev.symm with x | x
          · rw [x] at z; exact absurd z.2 Rat.lt_irrefl
          · rw [x] at cq; exact absurd cq Rat.lt_irrefl
        rw [if_pos ⟨z.1, nd, nz⟩] at q2
        omega
      have R0 : r (pl p) ≤ (now : Int) → R (pl p) = 0 := fun z => by
        have r0 := hR0 _ hj
        have : ¬ 0 < R (pl p) := fun q => no ⟨z, q⟩
        grind
      have e : cum (fun j => r j ≤ (now : Int)) R pl (p + 1) = cum (fun j => r j ≤ (now : Int)) R pl p := by
        rcases Classical.em (r (pl p) ≤ (now : Int)) with z | z
        · rw [cum_t z, R0 z, Rat.add_zero]
        · exact cum_f z
      refine ih (p + 1) i Sv D3 _ (by omega) ⟨w1, ⟨w2.1, by rw [e]; exact w2.2⟩, w3, w4, fun q' hq => ?_, fun q' hq q4 q5 q6 => ?_, fun q' hq q4 => w7 q' hq ?_, w8, w9, w10, by rw [e]; exact w11, by rw [e]; exact w12⟩
      · have e5 := w5 q' hq
        rcases (show q' = p ∨ q' ≠ p by omega) with z | z
        · rw [z] at e5 ⊢
          rw [if_neg (by omega)] at e5
          rcases Classical.em (r (pl p) ≤ (now : Int)) with y | y
          · rw [if_pos ⟨by omega, y⟩]
            rwa [zero_v _ hj (R0 y)] at e5
          · rw [if_neg (fun x => y x.2)]; exact e5
        · have e2 : (if q' < p + 1 ∧ r (pl q') ≤ (now : Int) then (0 : Int) else v (pl q')) = if q' < p ∧ r (pl q') ≤ (now : Int) then 0 else v (pl q') := by
            rcases Classical.em (q' < p ∧ r (pl q') ≤ (now : Int)) with y | y
            · rw [if_pos y, if_pos ⟨by omega, y.2⟩]
            · rw [if_neg y, if_neg (fun x => y ⟨by omega, x.2⟩)]
          rw [e2]; exact e5
      · rcases (show q' = p ∨ q' < p by omega) with z | z
        · rw [z] at q5 q6; exact absurd ⟨q5, q6⟩ no
        · exact w6 q' hq z q5 q6
      · rcases (show q' = p ∨ q' ≠ p by omega) with z | z
        · rw [z]; exact Or.inr no
        · rcases q4 with q4 | q4
          · exact Or.inl (by omega)
          · exact Or.inr q4
end FORE5
