/-! the model's AHEAD: workAhead's walk -/
/-- two rows are as they were -/
def R2 (D0 D : DD) (f : Int) : Prop := ∀ m, 2 * f ≤ m → m < 2 * f + 2 → D 710 m = D0 710 m ∧ ∀ j, 0 ≤ j → j < 100 → mr D m j = mr D0 m j
theorem R2.mq {D0 D : DD} {f : Int} {y : Rat} (h : R2 D0 D f) (q : Mq D0 f y) : Mq D f y := ⟨q.1.of (h _ (by omega) (by omega)).1 (h _ (by omega) (by omega)).2, q.2.of (h _ (by omega) (by omega)).1 (h _ (by omega) (by omega)).2⟩
theorem R2.tr {D0 D D' : DD} {f : Int} (h : R2 D0 D f) (h' : R2 D D' f) : R2 D0 D' f := fun m m1 m2 => ⟨(h' m m1 m2).1.trans (h m m1 m2).1, fun j j1 j2 => ((h' m m1 m2).2 j j1 j2).trans ((h m m1 m2).2 j j1 j2)⟩
theorem RF.r2 {D D' : DD} {lo hi lo2 hi2 f : Int} (h : RF lo hi lo2 hi2 D D') (q : (2 * f + 1 < lo ∨ hi ≤ 2 * f) ∧ (2 * f + 1 < lo2 ∨ hi2 ≤ 2 * f)) : R2 D D' f := fun m m1 m2 => h m (by omega) (by omega)
/-- the state at a place -/
def WMA (n : Nat) (r : Nat → Int) (pl : Nat → Nat) (t kk : Nat) (s : Rat) (R : Nat → Rat) (K bv : Int) (v : Nat → Int) (D0 D : DD) (p : Nat) (t2 t3 : Int) : Prop :=
  (∀ c, c ≠ 709 → c ≠ 710 → D c = D0 c) ∧ RF 120 144 230 253 D0 D ∧ Mn D 242 K ∧ Mn D 243 bv ∧
  (Mn D 246 t2 ∧ (t2 : Rat) = ((kk : Rat) * s - cum (fun j => r j ≤ (t : Int)) R pl p) * (K : Rat)) ∧ (Mn D 247 t3 ∧ (t3 : Rat) = cum (fun j => r j ≤ (t : Int)) R pl p * (K : Rat)) ∧
  (∀ q, q < n → Mn D (230 + (pl q : Int)) (if q < p ∧ r (pl q) ≤ (t : Int) then 0 else v (pl q))) ∧
  (∀ q, q < n → q < p → r (pl q) ≤ (t : Int) → 0 < R (pl q) → Mq D (60 + (pl q : Int)) ((t : Rat) + cum (fun j => r j ≤ (t : Int)) R pl (q + 1) / s)) ∧
  (∀ q, q < n → (p ≤ q ∨ ¬ (r (pl q) ≤ (t : Int) ∧ 0 < R (pl q))) → R2 D0 D (60 + (pl q : Int))) ∧ cum (fun j => r j ≤ (t : Int)) R pl p ≤ (kk : Rat) * s
/-- what is so behind a stretch -/
def WXM (n : Nat) (r : Nat → Int) (pl : Nat → Nat) (t kk : Nat) (s : Rat) (R R' : Nat → Rat) (K : Int) (D0 D : DD) : Prop :=
  (∀ c, c ≠ 709 → c ≠ 710 → D c = D0 c) ∧ RF 120 144 230 253 D0 D ∧ (∃ v', MFS D n R' K v') ∧
  (∀ q, q < n → r (pl q) ≤ (t : Int) → 0 < R (pl q) → cum (fun j => r j ≤ (t : Int)) R pl (q + 1) ≤ (kk : Rat) * s → Mq D (60 + (pl q : Int)) ((t : Rat) + cum (fun j => r j ≤ (t : Int)) R pl (q + 1) / s)) ∧
  (∀ q, q < n → ¬ (r (pl q) ≤ (t : Int) ∧ 0 < R (pl q) ∧ cum (fun j => r j ≤ (t : Int)) R pl (q + 1) ≤ (kk : Rat) * s) → R2 D0 D (60 + (pl q : Int)))
theorem end_val {t C s K : Rat} (hK : K ≠ 0) (hs : s ≠ 0) : (s * K * t + C * K) / (s * K) = t + C / s := by grind
section MAH4
variable {g : GG} {D D0 : DD} {n : Nat} {r d w v : Nat → Int} {pl : Nat → Nat} {R R' : Nat → Rat} {K : Int} {t : Nat}
theorem workAhead_loop (f : JF n r d w pl) (h0 : JM D0 n r d w) (hR : ∀ j, j < n → 0 ≤ R j ∧ R j ≤ 1000) (hv : ∀ j, j < n → (v j : Rat) = R j * (K : Rat)) (hK : 0 < K ∧ K < 2 ^ 200) (dead : ∀ j, j < n → d j ≤ (t : Int) → R j = 0) (ht : t < 200) {kk : Nat} {s : Rat} {bv : Int} (hs : 0 < s) (hbv : (bv : Rat) = s * (K : Rat)) (hb0 : 0 < bv ∧ bv ≤ 12000 * K)
    (hel : ∀ q, q < n → r (pl q) ≤ (t : Int) → R' (pl q) = max (cum (fun j => r j ≤ (t : Int)) R pl (q + 1) - (kk : Rat) * s) 0 - max (cum (fun j => r j ≤ (t : Int)) R pl q - (kk : Rat) * s) 0) (hno : ∀ j, j < n → ¬ r j ≤ (t : Int) → R' j = R j) (hfull : (kk : Rat) * s ≤ cum (fun j => r j ≤ (t : Int)) R pl n) :
    ∀ (m p : Nat) (y t2 t3 : Int) (D : DD) (z2 z3 : VV), n ≤ p + m → p ≤ n → WMA n r pl t kk s R K bv v D0 D p t2 t3 → IO D n r d pl t 0 y →
      Sg g M_Mo_workAhead (rV (fun D' => WXM n r pl t kk s R R' K D0 D')) 107 [vR 708, vI t, z2, z3, vI y] [] D := by
  have hn := f.1
  have hpl := f.2.2.2
  have mb := MB200
  have Kq : (0 : Rat) < (K : Rat) := Rat.intCast_pos.mpr hK.1
  have hR0 : ∀ j, j < n → 0 ≤ R j := fun j hj => (hR j hj).1
  have p1 := pow200' (k := 12000) hK (by omega)
  have p2 := pow200' (k := 12000 * 200) hK (by omega)
  have p3 := pow200' (k := 12000 * 201) hK (by omega)
  have mono : ∀ q q', q ≤ q' → q' ≤ n → cum (fun j => r j ≤ (t : Int)) R pl q ≤ cum (fun j => r j ≤ (t : Int)) R pl q' := fun q q' h1 h2 => cum_mono hpl hR0 h1 h2
  have zero_v : ∀ j, j < n → R j = 0 → v j = 0 := fun j hj z => by
    have e := hv j hj
    rw [z, Rat.zero_mul] at e
    exact Rat.intCast_eq_zero_iff.mp e
  -- done
  have fin : ∀ (p : Nat) (t2 t3 : Int) (D : DD), p ≤ n → WMA n r pl t kk s R K bv v D0 D p t2 t3 → (kk : Rat) * s ≤ cum (fun j => r j ≤ (t : Int)) R pl p → WXM n r pl t kk s R R' K D0 D := by
    intro p t2 t3 D hp h hge
    obtain ⟨a1, a2, a3, a4, a5, a6, a7, a8, a9, a10⟩ := h
    have ce : cum (fun j => r j ≤ (t : Int)) R pl p = (kk : Rat) * s := Rat.le_antisymm a10 hge
    have Re : ∀ q, q < n → R' (pl q) = if q < p ∧ r (pl q) ≤ (t : Int) then 0 else R (pl q) := fun q hq => by
      rcases Classical.em (r (pl q) ≤ (t : Int)) with y | y
      · rw [hel q hq y]
        have c1 := cum_t (R := R) (pl := pl) (el := fun j => r j ≤ (t : Int)) (p := q) y
        rcases Nat.lt_or_ge q p with z | z
        · rw [if_pos ⟨z, y⟩]
          have b1 := mono (q + 1) p (by omega) hp
          have b2 := mono q p (by omega) hp
          grind
        · rw [if_neg (by omega)]
          have b1 := mono p q z (by omega)
          have b2 := mono p (q + 1) (by omega) (by omega)
          rw [c1] at b2 ⊢
          grind
      · rw [if_neg (fun z => y z.2)]; exact hno _ (hpl.1 q hq) y
    refine ⟨a1, a2, ⟨fun j => if R' j = 0 then 0 else v j, a3, hK.1, hK.2, fun j hj => ?_⟩, fun q hq y r0 hc => a8 q hq ?_ y r0, fun q hq z => a9 q hq ?_⟩
    · obtain ⟨q, hq, rfl⟩ := hpl.2.2 j hj
      have e := a7 q hq
      have e2 := hv (pl q) hj
      have re := Re q hq
      show Mn D _ (if R' (pl q) = 0 then 0 else v (pl q)) ∧ ((if R' (pl q) = 0 then 0 else v (pl q) : Int) : Rat) = _
      rcases Classical.em (q < p ∧ r (pl q) ≤ (t : Int)) with y | y
      · rw [if_pos y] at e re
        rw [if_pos re, re, Rat.zero_mul]
        exact ⟨e, rfl⟩
      · rw [if_neg y] at e re
        rcases Classical.em (R' (pl q) = 0) with z | z
        · rw [if_pos z, z, Rat.zero_mul]
          rw [z] at re
          rw [zero_v _ hj re.symm] at e
          exact ⟨e, rfl⟩
        · rw [if_neg z, re]
          exact ⟨e, e2⟩
    · refine Decidable.byContradiction fun z => ?_
      have b1 := mono p q (by omega) (by omega)
      have c1 := cum_t (R := R) (pl := pl) (el := fun j => r j ≤ (t : Int)) (p := q) y
      rw [c1] at hc
      grind
    · rcases Nat.lt_or_ge q p with y | y
      · refine Or.inr fun x => z ⟨x.1, x.2, ?_⟩
        rw [← ce]
        exact mono (q + 1) p (by omega) hp
      · exact Or.inl y
  intro m
  induction m with
  | zero =>
    intro p y t2 t3 D z2 z3 hm hp h io
    obtain rfl : p = n := by omega
    have e := fin p t2 t3 D hp h hfull
    have ce := Rat.le_antisymm h.2.2.2.2.2.2.2.2.2 hfull
    have t20 : t2 = 0 := by
      have e2 := h.2.2.2.2.1.2
      rw [ce, show (kk : Rat) * s - (kk : Rat) * s = 0 by grind, Rat.zero_mul] at e2
      exact Rat.intCast_eq_zero_iff.mp e2
    have pp := h.2.2.2.2.1.1.pos
    have qq := h.2.2.2.2.1.1.1
    exact s_Mo_workAhead_107 ⟨fun _ => retV e, fun _ => ⟨fun _ => retV e, fun q => by omega⟩⟩
  | succ m ih =>
    intro p y t2 t3 D z2 z3 hm hp h io
    obtain ⟨a1, a2, a3, a4, a5, a6, a7, a8, a9, a10⟩ := id h
    have jm : JM D n r d w := h0.of (by rw [a1 708 (by omega) (by omega)]) fun c c1 c2 => a1 c (by omega) (by omega)
    have pp := a5.1.pos
    have qq := a5.1.1
    have t2n := a5.1.nn
    have t2r : 0 < t2 ↔ cum (fun j => r j ≤ (t : Int)) R pl p < (kk : Rat) * s := by
      rw [← Rat.intCast_pos, a5.2]
      constructor
      · intro z
        refine Rat.not_le.mp fun x => ?_
        have : (kk : Rat) * s - cum (fun j => r j ≤ (t : Int)) R pl p = 0 := by
          have := Rat.le_antisymm a10 x
          rw [this]; grind
        rw [this, Rat.zero_mul] at z
        exact absurd z Rat.lt_irrefl
      · intro z
        exact Rat.mul_pos (by grind) Kq
    -- which places are open
    have ob : ∀ q, q < n → (opb D r d pl t q = true ↔ p ≤ q ∧ r (pl q) ≤ (t : Int) ∧ 0 < R (pl q)) := fun q hq => by
      have a := a7 q hq
      have hj := hpl.1 q hq
      rcases Classical.em (q < p ∧ r (pl q) ≤ (t : Int)) with z | z
      · rw [if_pos z] at a
        have b := a.pos
        constructor
        · intro x
          have := of_decide_eq_true x
          omega
        · intro x; omega
      · rw [if_neg z] at a
        rw [opb_iff a (hv _ hj) hK.1 (hR0 _ hj) (dead _ hj)]
        constructor
        · exact fun x => ⟨by omega, x⟩
        · exact fun x => x.2
    have zero : ∀ q, p ≤ q → q < n → opb D r d pl t q = false → r (pl q) ≤ (t : Int) → R (pl q) = 0 := fun q hpq hq z y => by
      have := hR0 _ (hpl.1 q hq)
      have : ¬ 0 < R (pl q) := fun x => by
        have := (ob q hq).mpr ⟨hpq, y, x⟩
        rw [this] at z
        cases z
      grind
    rcases io with ⟨i1, i2⟩ | ⟨p', i1, i2, i3, i4⟩
    · -- none is open
      have up := cN_up (f := opb D r d pl t) (a := p) (n - p)
      rw [show p + (n - p) = n by omega] at up
      have fl := cN_flat (f := opb D r d pl t) (a := p) (k := n - p) (by rw [show p + (n - p) = n by omega]; omega)
      have e := cum_flat (r := r) (R := R) (t := t) hpl hp (Nat.le_refl n) (fun q q1 q2 q3 => zero q q1 q2 (fl q q1 (by omega)) q3)
      have e2 := fin p t2 t3 D hp h (by rw [← e]; exact hfull)
      exact s_Mo_workAhead_107 ⟨fun _ => retV e2, fun q => by omega⟩
    subst i3
    have op := (ob p' i1).mp i2
    have up := cN_up (f := opb D r d pl t) (a := p) (p' - p)
    rw [show p + (p' - p) = p' by omega] at up
    have fl := cN_flat (f := opb D r d pl t) (a := p) (k := p' - p) (by rw [show p + (p' - p) = p' by omega]; omega)
    have fe := cum_flat (r := r) (R := R) (t := t) hpl op.1 (by omega) (fun q q1 q2 q3 => zero q q1 (by omega) (fl q q1 (by omega)) q3)
    have flR : ∀ q, p ≤ q → q < p' → r (pl q) ≤ (t : Int) → R (pl q) = 0 := fun q q1 q2 q3 => zero q q1 (by omega) (fl q q1 (by omega)) q3
    have c1 := cum_t (R := R) (pl := pl) (el := fun j => r j ≤ (t : Int)) (p := p') op.2.1
    have hj := hpl.1 p' i1
    have hj12 : pl p' < 12 := by omega
    have nv := a7 p' i1
    rw [if_neg (by omega)] at nv
    have ev := hv (pl p') hj
    have vb : 0 ≤ v (pl p') ∧ v (pl p') ≤ 1000 * K := int_bd ev (hR _ hj).1 (B := 1000) (by
      have e3 : ((1000 : Int) : Rat) = 1000 := rfl
      rw [e3]; exact (hR _ hj).2) hK.1
    refine s_Mo_workAhead_107 ⟨fun q => by omega, fun _ => ⟨fun q => retV (fin p t2 t3 D hp h ?_), fun q => ⟨by unfold R32; omega, (morder_ok (a := 230 + (pl p' : Int)) (b := 246) (by omega) (by omega) nv a5.1).mono fun y D2 r2 => ?_⟩⟩⟩
    · refine Rat.not_lt.mp fun z => ?_
      have := t2r.mpr z
      omega
    obtain ⟨rfl, rfl⟩ := r2
    have clt := t2r.mp (by omega)
    have cmp : t2 < v (pl p') ↔ (kk : Rat) * s < cum (fun j => r j ≤ (t : Int)) R pl (p' + 1) := by
      rw [← Rat.intCast_lt_intCast, a5.2, ev, Rat.mul_lt_mul_right Kq, c1, fe]
      constructor
      · intro z; grind
      · intro z; grind
    have ne12 : ∀ q, q < n → q ≠ p' → pl q ≠ pl p' := fun q hq z e => z (hpl.inj hq i1 e)
    refine s_Mo_workAhead_136 ⟨fun q3 => ⟨⟨by unfold R32; omega, by unfold R32; omega⟩, ?_⟩, fun q3 => ⟨by unfold R32; omega, ?_⟩⟩
    · -- a part of it
      have gt : t2 < v (pl p') := by
        unfold scmp at q3
        split at q3
        · omega
        · split at q3
          · assumption
          · omega
      have gtr := cmp.mp gt
      refine (msub_ok (a := 230 + (pl p' : Int)) (b := 246) (t := 230 + (pl p' : Int)) (by omega) (by omega) (by omega) (by omega) nv a5.1 (by omega)).mono fun D3 r3 => s_Mo_workAhead_275 fun D4 e4 => s_Mo_workAhead_284 ?_
      have F4 : FM 230 253 230 253 D2 D4 := (FM.f1 r3.2 (by omega)).tr (by rw [e4]; exact FM.f1 F1.w0 (by omega))
      have C4 : ∀ c, c ≠ 709 → c ≠ 710 → D4 c = D0 c := fun c c1 c2 => (F4.1 c c1 c2).trans (a1 c c1 c2)
      have jm4 : JM D4 n r d w := h0.of (by rw [C4 708 (by omega) (by omega)]) fun c c1 c2 => C4 c (by omega) (by omega)
      refine (inOrder_ok f jm4 (by omega) (by omega)).mono fun y D5 r5 => s_Mo_workAhead_290 ?_
      obtain ⟨rfl, _⟩ := r5
      have Re : ∀ q, q < n → q ≠ p' → R' (pl q) = if q < p' ∧ r (pl q) ≤ (t : Int) then 0 else R (pl q) := fun q hq hqp => by
        rcases Classical.em (r (pl q) ≤ (t : Int)) with y | y
        · rw [hel q hq y]
          have c1 := cum_t (R := R) (pl := pl) (el := fun j => r j ≤ (t : Int)) (p := q) y
          rcases Nat.lt_or_ge q p' with z | z
          · rw [if_pos ⟨z, y⟩]
            have b1 := mono (q + 1) p' (by omega) (by omega)
            have b2 := mono q p' (by omega) (by omega)
            grind
          · rw [if_neg (by omega)]
            have b1 := mono (p' + 1) q (by omega) (by omega)
            have b2 := mono (p' + 1) (q + 1) (by omega) (by omega)
            rw [c1] at b2 ⊢
            grind
        · rw [if_neg (fun z => y z.2)]; exact hno _ (hpl.1 q hq) y
      have Rpp : R' (pl p') = cum (fun j => r j ≤ (t : Int)) R pl (p' + 1) - (kk : Rat) * s := by
        rw [hel p' i1 op.2.1]; grind
      have f246 : F1 246 D3 D5 := by rw [e4]; exact F1.w0
      have done : WXM n r pl t kk s R R' K D0 D5 := by
        refine ⟨C4, a2.tr (F4.rows.mono fun m _ _ => by omega), ⟨fun j => if j = pl p' then v (pl p') - t2 else if R' j = 0 then 0 else v j, (a3.f1 r3.2 (by omega)).f1 f246 (by omega), hK.1, hK.2, fun j hj' => ?_⟩, fun q hq y r0 hc => ?_, fun q hq z => ?_⟩
        · obtain ⟨q, hq, rfl⟩ := hpl.2.2 j hj'
          show Mn D5 _ (if pl q = pl p' then v (pl p') - t2 else if R' (pl q) = 0 then 0 else v (pl q)) ∧ ((if pl q = pl p' then v (pl p') - t2 else if R' (pl q) = 0 then 0 else v (pl q) : Int) : Rat) = _
          rcases (show q = p' ∨ q ≠ p' by omega) with z | z
          · subst z
            rw [if_pos rfl]
            refine ⟨r3.1.f1 f246 (by omega), ?_⟩
            rw [Rat.intCast_sub, a5.2, ev, Rpp, c1, fe]; grind
          · have ne := ne12 q hq z
            have h12 := hpl.1 q hq
            rw [if_neg ne]
            have e := ((a7 q hq).f1 r3.2 (by omega)).f1 f246 (by omega)
            have re := Re q hq z
            have e2 := hv (pl q) hj'
            rcases Classical.em (q < p' ∧ r (pl q) ≤ (t : Int)) with y | y
            · rw [if_pos y] at re
              rw [if_pos re, re, Rat.zero_mul]
              refine ⟨?_, rfl⟩
              rcases Nat.lt_or_ge q p with x | x
              · rw [if_pos ⟨x, y.2⟩] at e; exact e
              · rw [if_neg (by omega), zero_v _ hj' (flR q x y.1 y.2)] at e; exact e
            · rw [if_neg y] at re
              rw [if_neg (fun x => y ⟨by omega, x.2⟩)] at e
              rcases Classical.em (R' (pl q) = 0) with x | x
              · rw [if_pos x, x, Rat.zero_mul]
                rw [x] at re
                rw [zero_v _ hj' re.symm] at e
                exact ⟨e, rfl⟩
              · rw [if_neg x, re]; exact ⟨e, e2⟩
        · have qp : q < p := by
            refine Decidable.byContradiction fun z => ?_
            rcases Nat.lt_or_ge q p' with x | x
            · rw [flR q (by omega) x y] at r0; exact absurd r0 Rat.lt_irrefl
            · have := mono (p' + 1) (q + 1) (by omega) (by omega)
              grind
          have h12 := hpl.1 q hq
          exact (F4.rows.r2 (f := 60 + (pl q : Int)) (by omega)).mq (a8 q hq qp y r0)
        · have h12 := hpl.1 q hq
          refine R2.tr (a9 q hq ?_) (F4.rows.r2 (f := 60 + (pl q : Int)) (by omega))
          rcases Nat.lt_or_ge q p with y | y
          · refine Or.inr fun x => z ⟨x.1, x.2, ?_⟩
            have := mono (q + 1) p (by omega) (by omega)
            grind
          · exact Or.inl y
      have z46 : D5 710 246 = 0 := by rw [e4, zw_eq]
      exact s_Mo_workAhead_107 ⟨fun _ => retV done, fun _ => ⟨fun _ => retV done, fun x => by omega⟩⟩
    · -- all of it
      have ng : ¬ t2 < v (pl p') := fun z => by
        unfold scmp at q3
        rw [if_neg (by omega), if_pos z] at q3
        omega
      have le : cum (fun j => r j ≤ (t : Int)) R pl (p' + 1) ≤ (kk : Rat) * s := Rat.not_lt.mp fun z => ng (cmp.mpr z)
      have e3r : ((t3 + v (pl p') : Int) : Rat) = cum (fun j => r j ≤ (t : Int)) R pl (p' + 1) * (K : Rat) := by rw [Rat.intCast_add, a6.2, ev, c1, fe]; grind
      have e2r : ((t2 - v (pl p') : Int) : Rat) = ((kk : Rat) * s - cum (fun j => r j ≤ (t : Int)) R pl (p' + 1)) * (K : Rat) := by rw [Rat.intCast_sub, a5.2, ev, c1, fe]; grind
      have b3 := int_bd e3r (cum_nn hpl hR0 (by omega)) (cum12 hpl (by omega) hn hR) hK.1
      have t3n := a6.1.nn
      refine (madd_ok (a := 247) (b := 230 + (pl p' : Int)) (t := 247) (by omega) (by omega) (by omega) (by omega) a6.1 nv (by omega)).mono fun D3 r3 => s_Mo_workAhead_155 ⟨by unfold R32; omega, ?_⟩
      refine (msub_ok (a := 246) (b := 230 + (pl p' : Int)) (t := 246) (by omega) (by omega) (by omega) (by omega) (a5.1.f1 r3.2 (by omega)) (nv.f1 r3.2 (by omega)) (by omega)).mono fun D4 r4 => s_Mo_workAhead_171 ⟨⟨by unfold R32; omega, by omega⟩, fun D5 e5 => ?_⟩
      have f5 : F1 (230 + (pl p' : Int)) D4 D5 := by rw [e5]; exact F1.w0
      have n5 : Mn D5 (230 + (pl p' : Int)) 0 := by rw [e5]; exact mn_zero
      have b5 : Mn D5 243 bv := ((a4.f1 r3.2 (by omega)).f1 r4.2 (by omega)).f1 f5 (by omega)
      have bt : bv * (t : Int) ≤ 12000 * K * 200 := Int.mul_le_mul hb0.2 (by omega) (by omega) (by omega)
      have bt0 := Int.mul_nonneg (show 0 ≤ bv by omega) (show (0 : Int) ≤ t by omega)
      have bte : 12000 * K * 200 = 12000 * 200 * K := by ac_rfl
      have bte2 : 12000 * 201 * K = 12000 * 200 * K + 12000 * K := by omega
      refine (mcopy_ok (a := 243) (b := 244) (by omega) (by omega) (by omega) b5).mono fun D6 r6 => s_Mo_workAhead_193 ((mtimes_ok (n := 244) (by omega) r6.1 (by omega) (by omega)).mono fun D7 r7 => s_Mo_workAhead_201 ?_)
      have t7 : Mn D7 247 (t3 + v (pl p')) := (((r3.1.f1 r4.2 (by omega)).f1 f5 (by omega)).f1 r6.2 (by omega)).f1 r7.2 (by omega)
      refine (madd_ok (a := 244) (b := 247) (t := 244) (by omega) (by omega) (by omega) (by omega) r7.1 t7 (by omega)).mono fun D8 r8 => s_Mo_workAhead_214 ⟨⟨by unfold R32; omega, by unfold R32; omega⟩, ?_⟩
      have b8 : Mn D8 243 bv := ((b5.f1 r6.2 (by omega)).f1 r7.2 (by omega)).f1 r8.2 (by omega)
      refine (mcopy_ok (a := 244) (b := 2 * (60 + (pl p' : Int))) (by omega) (by omega) (by omega) r8.1).mono fun D9 r9 => s_Mo_workAhead_228 ⟨⟨by unfold R32; omega, by unfold R32; omega, by unfold R32; omega⟩, ?_⟩
      refine (mcopy_ok (a := 243) (b := 2 * (60 + (pl p' : Int)) + 1) (by omega) (by omega) (by omega) (b8.f1 r9.2 (by omega))).mono fun D10 r10 => s_Mo_workAhead_244 ⟨by unfold R32; omega, ?_⟩
      refine (mreduce_ok (f := 60 + (pl p' : Int)) (by omega) ⟨r9.1.f1 r10.2 (by omega), r10.1⟩ hb0.1 (by omega)).mono fun D11 r11 => s_Mo_workAhead_253 (s_Mo_workAhead_284 ?_)
      -- what is changed
      have G1 : FM 230 253 230 253 D2 D8 := ((FM.f1 r3.2 (by omega)).tr (FM.f1 r4.2 (by omega))).tr ((FM.f1 f5 (by omega)).tr ((FM.f1 r6.2 (by omega)).tr ((FM.f1 r7.2 (by omega)).tr (FM.f1 r8.2 (by omega)))))
      have G2 : FM (2 * (60 + (pl p' : Int))) (2 * (60 + (pl p' : Int)) + 2) 248 253 D8 D11 := ((FM.f1 r9.2 (by omega)).tr (FM.f1 r10.2 (by omega))).tr (r11.2)
      have C11 : ∀ c, c ≠ 709 → c ≠ 710 → D11 c = D0 c := fun c c1 c2 => (G2.1 c c1 c2).trans ((G1.1 c c1 c2).trans (a1 c c1 c2))
      have jm11 : JM D11 n r d w := h0.of (by rw [C11 708 (by omega) (by omega)]) fun c c1 c2 => C11 c (by omega) (by omega)
      refine (inOrder_ok f jm11 (by omega) (by omega)).mono fun y D12 r12 => s_Mo_workAhead_290 ?_
      obtain ⟨rfl, io⟩ := r12
      have up2 : ∀ {m u : Int}, Mn D8 m u → (230 ≤ m ∧ m < 248) → Mn D12 m u := fun h q => h.fm G2 (by omega)
      have a3' : Mn D12 242 K := up2 (((((((a3.f1 r3.2 (by omega)).f1 r4.2 (by omega)).f1 f5 (by omega)).f1 r6.2 (by omega)).f1 r7.2 (by omega)).f1 r8.2 (by omega))) (by omega)
      have t2' : Mn D12 246 (t2 - v (pl p')) := up2 ((((r4.1.f1 f5 (by omega)).f1 r6.2 (by omega)).f1 r7.2 (by omega)).f1 r8.2 (by omega)) (by omega)
      have t3' : Mn D12 247 (t3 + v (pl p')) := up2 (t7.f1 r8.2 (by omega)) (by omega)
      refine ih (p' + 1) y _ _ D12 _ _ (by omega) (by omega) ⟨C11, (a2.tr (G1.rows.mono fun m _ _ => by omega)).tr (G2.rows.mono fun m _ _ => by omega), a3', up2 b8 (by omega), ⟨t2', e2r⟩, ⟨t3', e3r⟩, fun q hq => ?_, fun q hq q4 q5 q6 => ?_, fun q hq q4 => ?_, le⟩ io
      · have h12 := hpl.1 q hq
        rcases (show q = p' ∨ q ≠ p' by omega) with z | z
        · subst z
          rw [if_pos ⟨by omega, op.2.1⟩]
          exact up2 (((n5.f1 r6.2 (by omega)).f1 r7.2 (by omega)).f1 r8.2 (by omega)) (by omega)
        · have ne := ne12 q hq z
          have e := up2 (((((((a7 q hq).f1 r3.2 (by omega)).f1 r4.2 (by omega)).f1 f5 (by omega)).f1 r6.2 (by omega)).f1 r7.2 (by omega)).f1 r8.2 (by omega)) (by omega)
          rcases Classical.em (q < p' + 1 ∧ r (pl q) ≤ (t : Int)) with y | y
          · rw [if_pos y]
            rcases Nat.lt_or_ge q p with x | x
            · rw [if_pos ⟨x, y.2⟩] at e; exact e
            · rw [if_neg (by omega), zero_v _ h12 (flR q x (by omega) y.2)] at e; exact e
          · rw [if_neg y]
            rw [if_neg (fun x => y ⟨by omega, x.2⟩)] at e
            exact e
      · have h12 := hpl.1 q hq
        rcases (show q = p' ∨ q ≠ p' by omega) with z | z
        · subst z
          have ev2 : ((bv * (t : Int) + (t3 + v (pl q)) : Int) : Rat) / (bv : Rat) = (t : Rat) + cum (fun j => r j ≤ (t : Int)) R pl (q + 1) / s := by
            rw [Rat.intCast_add, Rat.intCast_mul, e3r, hbv, show (((t : Nat) : Int) : Rat) = (t : Rat) from rfl]
            exact end_val (fun z => by rw [z] at Kq; exact absurd Kq Rat.lt_irrefl) (fun z => by rw [z] at hs; exact absurd hs Rat.lt_irrefl)
          rw [← ev2]
          exact r11.1
        · have ne := ne12 q hq z
          have qp : q < p := by
            refine Decidable.byContradiction fun x => ?_
            rw [flR q (by omega) (by omega) q5] at q6; exact absurd q6 Rat.lt_irrefl
          exact (R2.tr (G1.rows.r2 (f := 60 + (pl q : Int)) (by omega)) (G2.rows.r2 (f := 60 + (pl q : Int)) (by omega))).mq (a8 q hq qp q5 q6)
      · have h12 := hpl.1 q hq
        have hqp : q ≠ p' := fun z => by
          subst z
          rcases q4 with q4 | q4
          · omega
          · exact q4 op.2
        have ne := ne12 q hq hqp
        refine R2.tr (a9 q hq ?_) (R2.tr (G1.rows.r2 (f := 60 + (pl q : Int)) (by omega)) (G2.rows.r2 (f := 60 + (pl q : Int)) (by omega)))
        rcases q4 with q4 | q4
        · exact Or.inl (by omega)
        · exact Or.inr q4
end MAH4
