/-! Foresight: findDensest, setRate, setEnd, rescale -/
theorem BD.Ds {d : Nat → Int} {pl : Nat → Nat} {el : Nat → Prop} {R : Nat → Rat} {now : Nat} {c : Int} {p : Nat} {dv Ds : Int} (h : BD d pl el R now c p dv Ds) (hd : ∀ q, q < p → d (pl q) ≤ 200) (hn : now < 200) : (now : Int) ≤ Ds ∧ Ds ≤ 200 := by
  rcases h with ⟨_, h, _⟩ | ⟨m, a1, a2, a3, _⟩
  · omega
  · have := hd m a1
    omega
theorem int_bd {x : Rat} {S c B : Int} (h : (S : Rat) = x * (c : Rat)) (h0 : 0 ≤ x) (h1 : x ≤ (B : Rat)) (hc : 0 < c) : 0 ≤ S ∧ S ≤ B * c := by
  have cq : (0 : Rat) ≤ (c : Rat) := Rat.intCast_nonneg.mpr (by omega)
  refine ⟨Rat.intCast_nonneg.mp (by rw [h]; exact Rat.mul_nonneg h0 cq), Rat.intCast_le_intCast.mp ?_⟩
  rw [h, Rat.intCast_mul]
  exact Rat.mul_le_mul_of_nonneg_right h1 cq
theorem Na.far {D D' : DD} {a b : Nat} {v : Int} (h : Na D b v) (hf : Fa D D' a) (q : b + 1 < a ∨ a + 1 < b) : Na D' b v := h.of (hf b (by omega) (by omega)) (hf (b + 1) (by omega) (by omega))
theorem zf_532 : zk 532 = (0, 3, 0) := by decide +kernel
theorem zf_534 : zk 534 = (0, 3, 0) := by decide +kernel
theorem zf_536 : zk 536 = (0, 3, 0) := by decide +kernel
theorem zf_538 : zk 538 = (0, 3, 0) := by decide +kernel
theorem zf_540 : zk 540 = (0, 3, 0) := by decide +kernel
theorem zf_542 : zk 542 = (0, 3, 0) := by decide +kernel
theorem zf_545 : zk 545 = (0, 3, 0) := by decide +kernel
theorem zf_547 : zk 547 = (0, 3, 0) := by decide +kernel
theorem zf_544 : zk 544 = (0, 4, 0) := by decide +kernel
section FORE2
variable {g : GG} {D D0 : DD} {n : Nat} {r d w : Nat → Int} {pl : Nat → Nat} {R : Nat → Rat} {c : Int} {v : Nat → Int}
theorem BD.dv {el : Nat → Prop} {now p : Nat} {dv Ds : Int} (h : BD d pl el R now c p dv Ds) (hpl : Pl n d pl) (hp : p ≤ n) (hn : n ≤ 12) (hR : ∀ j, j < n → 0 ≤ R j ∧ R j ≤ 1000) (hc : 0 < c) : 0 ≤ dv ∧ dv ≤ 12000 * c := by
  rcases h with ⟨h, _, _⟩ | ⟨m, a1, a2, a3, a4, a5, _⟩
  · omega
  · have b := cum_bd (el := el) hpl hR (m + 1) (by omega)
    have e : ((m + 1 : Nat) : Rat) ≤ ((12 : Nat) : Rat) := Rat.natCast_le_natCast.mpr (by omega)
    have e2 : ((12 : Nat) : Rat) = 12 := rfl
    exact int_bd a4 (Rat.le_of_lt a5) (B := 12000) (by
      have e3 : ((12000 : Int) : Rat) = 12000 := rfl
      rw [e3]; rw [e2] at e; grind) hc
theorem cum12 {el : Nat → Prop} {p : Nat} (hpl : Pl n d pl) (hp : p ≤ n) (hn : n ≤ 12) (hR : ∀ j, j < n → 0 ≤ R j ∧ R j ≤ 1000) : cum el R pl p ≤ ((12000 : Int) : Rat) := by
  have b := cum_bd (el := el) hpl hR p hp
  have e : (p : Rat) ≤ ((12 : Nat) : Rat) := Rat.natCast_le_natCast.mpr (by omega)
  have e2 : ((12 : Nat) : Rat) = 12 := rfl
  have e3 : ((12000 : Int) : Rat) = 12000 := rfl
  rw [e3]; rw [e2] at e; grind
theorem pow90 {c k : Int} (hc : 0 < c ∧ c < 2 ^ 90) (hk : 0 ≤ k ∧ k ≤ 2 ^ 40) : 0 ≤ k * c ∧ k * c < 2 ^ 130 := by
  have e : k * c ≤ 2 ^ 40 * c := Int.mul_le_mul_of_nonneg_right hk.2 (by omega)
  have e2 : (2 : Int) ^ 40 * 2 ^ 90 = 2 ^ 130 := by decide
  exact ⟨Int.mul_nonneg hk.1 (by omega), by omega⟩
theorem BB130 : (2 : Int) ^ 130 < BB ^ 30 ∧ BB ^ 30 < BB ^ 32 := by decide +kernel
theorem foFind_loop (f : JF n r d w pl) (h0 : JC D0 n r d w pl) (hv : FS D0 n R c v) (hR : ∀ j, j < n → 0 ≤ R j ∧ R j ≤ 1000) {now : Nat} (hnow : now < 200) (dead : ∀ j, j < n → d j ≤ (now : Int) → R j = 0) :
    ∀ (m p : Nat) (Ds dv Sp : Int) (D : DD) (z4 : VV), p + m = n → FR 530 531 534 544 D0 D → D 530 3 = Ds → Na D 534 dv → Na D 536 Sp → (Sp : Rat) = cum (fun j => r j ≤ (now : Int)) R pl p * (c : Rat) → BD d pl (fun j => r j ≤ (now : Int)) R now c p dv Ds →
      Sg g M_Fo_findDensest (rV (fun D' => FR 530 531 534 544 D0 D' ∧ ∃ dv Ds, Na D' 534 dv ∧ D' 530 3 = Ds ∧ BD d pl (fun j => r j ≤ (now : Int)) R now c n dv Ds)) 23 [vR 530, vR 1, vI now, vI p, z4] [] D := by
  have hn := f.1
  have hpl := f.2.2.2
  have hR0 : ∀ j, j < n → 0 ≤ R j := fun j hj => (hR j hj).1
  have hc := hv.2.1
  have cq : (0 : Rat) < (c : Rat) := Rat.intCast_pos.mpr hc
  have bb := BB130
  intro m
  induction m with
  | zero =>
    intro p Ds dv Sp D z4 hm F e3 hd hs es bd
    obtain rfl : p = n := by omega
    have h1 : D 1 0 = p := by rw [F 1 (by omega) (by omega)]; exact h0.1
    exact s_Fo_findDensest_23 ⟨fun _ => retV ⟨F, dv, Ds, hd, e3, bd⟩, fun q => by omega⟩
  | succ m ih =>
    intro p Ds dv Sp D z4 hm F e3 hd hs es bd
    have hp : p < n := by omega
    have hj := hpl.1 p hp
    have j1 : JC D n r d w pl := h0.fr F (by omega)
    have v1 : FS D n R c v := hv.fr hn F (by omega)
    have wj := f.2.1 (pl p) hj
    have h5 := j1.2.2 p hp
    obtain ⟨nv, ev⟩ := v1.2.2.2 (pl p) hj
    have dsb := bd.Ds (fun q hq => by have := f.2.1 (pl q) (hpl.1 q (by omega)); omega) hnow
    have dvb := bd.dv hpl (by omega) hn hR hc
    have c90 : 0 < c ∧ c < 2 ^ 90 := ⟨hc, v1.2.2.1⟩
    refine s_Fo_findDensest_23 ⟨fun q => by have := j1.1; omega, fun _ => ⟨by omega, ?_⟩⟩
    rw [h5]
    refine (isOpen_ok f j1 hj nv).mono fun y D2 r2 => ?_
    obtain ⟨rfl, rfl⟩ := r2
    refine s_Fo_findDensest_47 ⟨fun q => ?_, fun q => s_Fo_findDensest_154 ⟨by unfold R32; omega, ih (p + 1) Ds dv Sp D2 _ (by omega) F e3 hd hs ?_ ?_⟩⟩
    · -- open
      have op : r (pl p) ≤ (now : Int) ∧ (now : Int) < d (pl p) ∧ v (pl p) ≠ 0 := Decidable.byContradiction fun z => by rw [if_neg z] at q; omega
      have c1 := cum_t (R := R) (pl := pl) (el := fun j => r j ≤ (now : Int)) (p := p) op.1
      have es1 : ((Sp + v (pl p) : Int) : Rat) = cum (fun j => r j ≤ (now : Int)) R pl (p + 1) * (c : Rat) := by rw [Rat.intCast_add, es, ev, c1]; grind
      have sb := int_bd es1 (cum_nn hpl hR0 (by omega)) (cum12 hpl (by omega) hn hR) hc
      have s0 := int_bd es (cum_nn hpl hR0 (by omega)) (cum12 hpl (by omega) hn hR) hc
      have k1 := zk_left (j := pl p) (by omega)
      have q1 := pow90 (k := 12000) c90 (by omega)
      refine ⟨by omega, ?_⟩
      rw [Int.toNat_natCast]
      refine (add_ok (a := 536) zf_536 k1 (by omega) hs nv (by omega)).mono fun D3 r3 => ?_
      refine s_Fo_findDensest_67 ((copyFrom_ok (a := 538) (b := 536) zf_538 zf_536 r3.1).mono fun D4 r4 => ?_)
      have F3 : FR 530 531 534 544 D0 D3 := F.tr (FR.fa r3.2 (by omega))
      have F4 : FR 530 531 534 544 D0 D4 := F3.tr (FR.fa r4.2 (by omega))
      have d4 : D4 530 3 = Ds := by rw [r4.2 530 (by omega) (by omega), r3.2 530 (by omega) (by omega)]; exact e3
      have m1 := pow90 (k := 12000 * (Ds - now)) c90 (by omega)
      have m1' : (Sp + v (pl p)) * (Ds - now) ≤ 12000 * c * (Ds - now) := Int.mul_le_mul_of_nonneg_right sb.2 (by omega)
      have m1'' : 12000 * c * (Ds - now) = 12000 * (Ds - now) * c := by ac_rfl
      refine s_Fo_findDensest_78 ⟨by rw [d4]; unfold R32; omega, ?_⟩
      rw [d4]
      refine (times_ok (a := 538) zf_538 r4.1 (by omega) (by omega)).mono fun D5 r5 => ?_
      have hd5 : Na D5 534 dv := ((hd.far r3.2 (by omega)).far r4.2 (by omega)).far r5.2 (by omega)
      have hs5 : Na D5 536 (Sp + v (pl p)) := (r3.1.far r4.2 (by omega)).far r5.2 (by omega)
      refine s_Fo_findDensest_91 ((copyFrom_ok (a := 542) (b := 534) zf_542 zf_534 hd5).mono fun D6 r6 => ?_)
      have F6 : FR 530 531 534 544 D0 D6 := (F4.tr (FR.fa r5.2 (by omega))).tr (FR.fa r6.2 (by omega))
      have j6 : JC D6 n r d w pl := h0.fr F6 (by omega)
      have e36 := (j6.2.1 (pl p) hj).2.1
      have m2 := pow90 (k := 12000 * (d (pl p) - now)) c90 (by omega)
      have m2' : dv * (d (pl p) - now) ≤ 12000 * c * (d (pl p) - now) := Int.mul_le_mul_of_nonneg_right dvb.2 (by omega)
      have m2'' : 12000 * c * (d (pl p) - now) = 12000 * (d (pl p) - now) * c := by ac_rfl
      refine s_Fo_findDensest_102 ⟨⟨by omega, by rw [e36]; unfold R32; omega⟩, ?_⟩
      rw [e36]
      refine (times_ok (a := 542) zf_542 r6.1 (by omega) (by omega)).mono fun D7 r7 => ?_
      have F7 : FR 530 531 534 544 D0 D7 := F6.tr (FR.fa r7.2 (by omega))
      have hm7 : Na D7 538 ((Sp + v (pl p)) * (Ds - now)) := (r5.1.far r6.2 (by omega)).far r7.2 (by omega)
      have hd7 : Na D7 534 dv := (hd5.far r6.2 (by omega)).far r7.2 (by omega)
      have hs7 : Na D7 536 (Sp + v (pl p)) := (hs5.far r6.2 (by omega)).far r7.2 (by omega)
      have d7 : D7 530 3 = Ds := by rw [r7.2 530 (by omega) (by omega), r6.2 530 (by omega) (by omega), r5.2 530 (by omega) (by omega)]; exact d4
      refine s_Fo_findDensest_118 ((order_ok (a := 538) (b := 542) zf_538 zf_542 hm7 r7.1).mono fun y D8 r8 => ?_)
      obtain ⟨rfl, rfl⟩ := r8
      have Rp : 0 < R (pl p) := by
        rcases Rat.le_iff_lt_or_eq.mp (hR0 _ hj) with z | z
        · exact z
        · rw [← z, Rat.zero_mul] at ev
          exact absurd (Rat.intCast_eq_zero_iff.mp ev) op.2.2
      have cpos : 0 < cum (fun j => r j ≤ (now : Int)) R pl (p + 1) := by
        have := cum_nn (el := fun j => r j ≤ (now : Int)) hpl hR0 (show p ≤ n by omega)
        rw [c1]; grind
      -- in rational numbers
      have cmp : (Sp + v (pl p)) * (Ds - now) < dv * (d (pl p) - now) ↔ cum (fun j => r j ≤ (now : Int)) R pl (p + 1) * ((Ds : Rat) - (now : Rat)) * (c : Rat) < (dv : Rat) * ((d (pl p) : Rat) - (now : Rat)) := by
        rw [← Rat.intCast_lt_intCast, Rat.intCast_mul, Rat.intCast_mul, es1, Rat.intCast_sub, Rat.intCast_sub]
        rw [show cum (fun j => r j ≤ (now : Int)) R pl (p + 1) * (c : Rat) * ((Ds : Rat) - (((now : Nat) : Int) : Rat)) = cum (fun j => r j ≤ (now : Int)) R pl (p + 1) * ((Ds : Rat) - (now : Rat)) * (c : Rat) by
          rw [show (((now : Nat) : Int) : Rat) = (now : Rat) from rfl]; grind]
        rfl
      refine s_Fo_findDensest_129 ⟨fun q2 => s_Fo_findDensest_154 ⟨by unfold R32; omega, ih (p + 1) Ds dv _ D8 _ (by omega) F7 d7 hd7 hs7 es1 ?_⟩, fun q2 => (copyFrom_ok (a := 534) (b := 536) zf_534 zf_536 hs7).mono fun D9 r9 => s_Fo_findDensest_143 ⟨by omega, fun D10 e10 => s_Fo_findDensest_154 ⟨by unfold R32; omega, ih (p + 1) (d (pl p)) (Sp + v (pl p)) _ D10 _ (by omega) ?_ ?_ ?_ ?_ es1 ?_⟩⟩⟩
      · have lt : (Sp + v (pl p)) * (Ds - now) < dv * (d (pl p) - now) := by
          unfold scmp at q2
          split at q2
          · assumption
          · split at q2 <;> omega
        have lt2 := cmp.mp lt
        rcases bd with ⟨b1, b2, b3⟩ | ⟨m', b1, b2, b3, b4, b5, b6⟩
        · subst b1
          rw [Int.zero_mul, b2] at lt
          have : (Sp + v (pl p)) * ((now : Int) - now) = 0 := by rw [Int.sub_self, Int.mul_zero]
          omega
        · refine Or.inr ⟨m', by omega, b2, b3, b4, b5, fun q hq q3 q4 => ?_⟩
          rcases (show q = p ∨ q < p by omega) with z | z
          · rw [z]
            rw [b4] at lt2
            refine Rat.le_of_lt (Rat.lt_of_mul_lt_mul_right (c := (c : Rat)) ?_ (Rat.le_of_lt cq))
            grind
          · exact b6 q z q3 q4
      · exact (F7.tr (FR.fa r9.2 (by omega))).tr (by rw [e10]; exact FR.w (by omega))
      · rw [e10, zw_eq, r9.2 3 (by omega) (by omega)]
        exact ((h0.fr F7 (by omega) : JC D8 n r d w pl).2.1 (pl p) hj).2.1
      · exact r9.1.of (by rw [e10]; exact zw_off (by omega)) (by rw [e10]; exact zw_off (by omega))
      · exact (hs7.far r9.2 (by omega)).of (by rw [e10]; exact zw_off (by omega)) (by rw [e10]; exact zw_off (by omega))
      · have ge : ¬ (Sp + v (pl p)) * (Ds - now) < dv * (d (pl p) - now) := fun z => by
          unfold scmp at q2
          rw [if_pos z] at q2
          omega
        have ge2 : (dv : Rat) * ((d (pl p) : Rat) - (now : Rat)) ≤ cum (fun j => r j ≤ (now : Int)) R pl (p + 1) * ((Ds : Rat) - (now : Rat)) * (c : Rat) := Rat.not_lt.mp fun z => ge (cmp.mpr z)
        refine Or.inr ⟨p, by omega, rfl, op.2.1, es1, cpos, fun q hq q3 q4 => ?_⟩
        rcases (show q = p ∨ q < p by omega) with z | z
        · rw [z]; exact Rat.le_refl
        · rcases bd with ⟨b1, b2, b3⟩ | ⟨m', b1, b2, b3, b4, b5, b6⟩
          · exfalso
            have a1 := cum_mono (el := fun j => r j ≤ (now : Int)) hpl hR0 (show q + 1 ≤ p by omega) (by omega)
            have a2 := cum_t (R := R) (pl := pl) (el := fun j => r j ≤ (now : Int)) (p := q) q3
            have a3 := cum_nn (el := fun j => r j ≤ (now : Int)) hpl hR0 (show q ≤ n by omega)
            rw [b3, a2] at a1
            grind
          · have e1 := b6 q z q3 q4
            rw [b4] at ge2
            have dp : (0 : Rat) < (Ds : Rat) - (now : Rat) := by
              have : ((now : Int) : Rat) < (Ds : Rat) := Rat.intCast_lt_intCast.mpr b3
              have e : (((now : Nat) : Int) : Rat) = (now : Rat) := rfl
              rw [e] at this
              grind
            have dj : (0 : Rat) ≤ (d (pl p) : Rat) - (now : Rat) := by
              have : ((now : Int) : Rat) < (d (pl p) : Rat) := Rat.intCast_lt_intCast.mpr op.2.1
              have e : (((now : Nat) : Int) : Rat) = (now : Rat) := rfl
              rw [e] at this
              grind
            have dq : (0 : Rat) ≤ (d (pl q) : Rat) - (now : Rat) := by
              have nd : ¬ d (pl q) ≤ (now : Int) := fun z => by
                rw [dead _ (hpl.1 q (by omega)) z] at q4; exact absurd q4 Rat.lt_irrefl
              have : ((now : Int) : Rat) < (d (pl q) : Rat) := Rat.intCast_lt_intCast.mpr (by omega)
              have e : (((now : Nat) : Int) : Rat) = (now : Rat) := rfl
              rw [e] at this
              grind
            have ge3 : cum (fun j => r j ≤ (now : Int)) R pl (m' + 1) * ((d (pl p) : Rat) - (now : Rat)) ≤ cum (fun j => r j ≤ (now : Int)) R pl (p + 1) * ((Ds : Rat) - (now : Rat)) := by
              refine Rat.le_of_mul_le_mul_right (c := (c : Rat)) ?_ cq
              grind
            have x1 := Rat.mul_le_mul_of_nonneg_right e1 dj
            have x2 := Rat.mul_le_mul_of_nonneg_right ge3 dq
            refine Rat.le_of_mul_le_mul_right (c := (Ds : Rat) - (now : Rat)) ?_ dp
            grind
    · -- not open
      have no : ¬ (r (pl p) ≤ (now : Int) ∧ 0 < R (pl p)) := fun z => by
        have nd : (now : Int) < d (pl p) := Decidable.byContradiction fun y => by
          have e0 := dead _ hj (by omega)
          rw [e0] at z; exact absurd z.2 Rat.lt_irrefl
        have nz : v (pl p) ≠ 0 := fun y => by
          rw [y] at ev
          have ev : (0 : Rat) = R (pl p) * (c : Rat) := ev
          rcases Rat.mul_eq_zero.mp ev.symm with x | x
          · rw [x] at z; exact absurd z.2 Rat.lt_irrefl
          · rw [x] at cq; exact absurd cq Rat.lt_irrefl
        rw [if_pos ⟨z.1, nd, nz⟩] at q
        omega
      have e : cum (fun j => r j ≤ (now : Int)) R pl (p + 1) = cum (fun j => r j ≤ (now : Int)) R pl p := by
        rcases Classical.em (r (pl p) ≤ (now : Int)) with z | z
        · have r0 := hR0 _ hj
          rw [cum_t z]
          have : R (pl p) = 0 := by
            have : ¬ 0 < R (pl p) := fun q => no ⟨z, q⟩
            grind
          rw [this, Rat.add_zero]
        · exact cum_f z
      rw [e]; exact es
    · have no : ¬ (r (pl p) ≤ (now : Int) ∧ 0 < R (pl p)) := fun z => by
        have nd : (now : Int) < d (pl p) := Decidable.byContradiction fun y => by
          have e0 := dead _ hj (by omega)
          rw [e0] at z; exact absurd z.2 Rat.lt_irrefl
        have nz : v (pl p) ≠ 0 := fun y => by
          rw [y] at ev
          have ev : (0 : Rat) = R (pl p) * (c : Rat) := ev
          rcases Rat.mul_eq_zero.mp ev.symm with x | x
          · rw [x] at z; exact absurd z.2 Rat.lt_irrefl
          · rw [x] at cq; exact absurd cq Rat.lt_irrefl
        rw [if_pos ⟨z.1, nd, nz⟩] at q
        omega
      have e : cum (fun j => r j ≤ (now : Int)) R pl (p + 1) = cum (fun j => r j ≤ (now : Int)) R pl p := by
        rcases Classical.em (r (pl p) ≤ (now : Int)) with z | z
        · have r0 := hR0 _ hj
          rw [cum_t z]
          have : R (pl p) = 0 := by
            have : ¬ 0 < R (pl p) := fun q => no ⟨z, q⟩
            grind
          rw [this, Rat.add_zero]
        · exact cum_f z
      rcases bd with ⟨b1, b2, b3⟩ | ⟨m', b1, b2, b3, b4, b5, b6⟩
      · exact Or.inl ⟨b1, b2, by rw [e]; exact b3⟩
      · refine Or.inr ⟨m', by omega, b2, b3, b4, b5, fun q hq q3 q4 => ?_⟩
        rcases (show q = p ∨ q < p by omega) with z | z
        · rw [z] at q3 q4; exact absurd ⟨q3, q4⟩ no
        · exact b6 q z q3 q4
end FORE2
