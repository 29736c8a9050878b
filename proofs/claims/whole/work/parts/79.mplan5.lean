/-! the model: workPlan, a time's walk -/
theorem zk_r64 {D : DD} (ok : okD zE D) {a n x : Nat} (k : zk a = (2, n, x)) (j : Int) : R64 (D a j) := by
  have h := ok a (zk_lt k (by decide)) j
  rw [k] at h
  exact h
section MPLAN5
variable {g : GG} {D D0 : DD} {n : Nat} {r d w : Nat → Int} {pl : Nat → Nat}
theorem workPlan_walk (f : JF n r d w pl) (h0 : JM D0 n r d w) {t : Nat} (ht : t < 200) {A B last : Int} {S : Rat} {R den : Nat → Rat} (hA : D0 717 t = A) (hA2 : 0 < A ∧ A ≤ 12000) (hB : 0 < B) (hS : S * (B : Rat) = (A : Rat)) (hR : ∀ j, j < n → 0 ≤ R j) (hdp : ∀ j, j < n → 0 < den j)
    (hden : ∀ p, p < n → r (pl p) ≤ (t : Int) → 0 < R (pl p) → cum (fun j => r j ≤ (t : Int)) R pl p < S → den (pl p) = (B : Rat)) (hfull : S ≤ cum (fun j => r j ≤ (t : Int)) R pl n) {Q : Option VV → EE → DD → Prop}
    (hk : ∀ D z4 z6 z7, WM n pl (fun j => r j ≤ (t : Int)) S R den (B : Rat) t D0 D n A → Sg g M_Mo_workPlan Q 206 [vR 708, vU, vI last, vI t, z4, vU, z6, z7, vU] [] D) :
    ∀ (m p : Nat) (used x6 : Int) (D : DD) (z1 z7 z8 : VV), n ≤ p + m → p ≤ n → cum (fun j => r j ≤ (t : Int)) R pl p ≤ S → WM n pl (fun j => r j ≤ (t : Int)) S R den (B : Rat) t D0 D p used → NJ D n r pl t x6 →
      Sg g M_Mo_workPlan Q 80 [vR 708, z1, vI last, vI t, vL used, vU, vI x6, z7, z8] [] D := by
  have hn := f.1
  have hpl := f.2.2.2
  have Bq : (0 : Rat) < (B : Rat) := Rat.intCast_pos.mpr hB
  have Aq : (0 : Rat) < (A : Rat) := Rat.intCast_pos.mpr hA2.1
  have Sp : 0 < S := by
    rcases Rat.le_total (a := S) (b := 0) with y | y
    · have := Rat.mul_le_mul_of_nonneg_right y (Rat.le_of_lt Bq)
      grind
    · rcases Rat.le_iff_lt_or_eq.mp y with z | z
      · exact z
      · rw [← z, Rat.zero_mul] at hS; grind
  -- full: the end
  have stop : ∀ (p : Nat) (used x6 : Int) (D : DD) (z1 z7 z8 : VV), p ≤ n → S ≤ cum (fun j => r j ≤ (t : Int)) R pl p → WM n pl (fun j => r j ≤ (t : Int)) S R den (B : Rat) t D0 D p used → Sg g M_Mo_workPlan Q 80 [vR 708, z1, vI last, vI t, vL used, vU, vI x6, z7, z8] [] D := by
    intro p used x6 D z1 z7 z8 hp hc h
    have h2 := h.jump hpl hp (Nat.le_refl n) (fun q q1 q2 => by
      have := cum_mono (el := fun j => r j ≤ (t : Int)) hpl hR q1 q2
      grind)
    have ue : used = A := by
      have e := h.2.2.1
      rw [show min (cum (fun j => r j ≤ (t : Int)) R pl p) S = S by grind, hS] at e
      exact Rat.intCast_inj.mp e
    subst ue
    have e717 : D 717 t = used := by rw [h.1 717 (by omega) (by omega) (by omega)]; exact hA
    exact s_Mo_workPlan_80 ⟨fun _ => hk D _ _ _ h2, fun _ => ⟨by omega, fun _ => hk D _ _ _ h2, fun q => by omega⟩⟩
  intro m
  induction m with
  | zero =>
    intro p used x6 D z1 z7 z8 hm hp hc h _
    obtain rfl : p = n := by omega
    exact stop p used x6 D z1 z7 z8 hp hfull h
  | succ m ih =>
    intro p used x6 D z1 z7 z8 hm hp hc h hj
    rcases Classical.em (S ≤ cum (fun j => r j ≤ (t : Int)) R pl p) with full | nf
    · exact stop p used x6 D z1 z7 z8 hp full h
    have clt : cum (fun j => r j ≤ (t : Int)) R pl p < S := by grind
    obtain ⟨a1, a2, a3, a4, a5, a6⟩ := id h
    have e717 : D 717 t = A := by rw [a1 717 (by omega) (by omega) (by omega)]; exact hA
    have jm : JM D n r d w := h0.of (by rw [a1 708 (by omega) (by omega) (by omega)]) fun c c1 c2 => a1 c (by omega) (by omega) (by omega)
    have ua : used < A := by
      have e := a3
      rw [show min (cum (fun j => r j ≤ (t : Int)) R pl p) S = cum (fun j => r j ≤ (t : Int)) R pl p by grind] at e
      refine Rat.intCast_lt_intCast.mp ?_
      rw [e, ← hS]
      exact (Rat.mul_lt_mul_right Bq).mpr clt
    have u0 : 0 ≤ used := by
      have c0 := cum_nn (el := fun j => r j ≤ (t : Int)) hpl hR hp
      refine Rat.intCast_nonneg.mp ?_
      rw [a3]
      exact Rat.mul_nonneg (by grind) (Rat.le_of_lt Bq)
    -- a place before p has nothing left
    have gone : ∀ q, q < p → r (pl q) ≤ (t : Int) → D 722 (pl q) = 0 := fun q hq rq => by
      have e := a4 q (by omega)
      rw [if_pos hq] at e
      have c1 := cum_t (R := R) (pl := pl) (el := fun j => r j ≤ (t : Int)) (p := q) rq
      have c2 := cum_mono (el := fun j => r j ≤ (t : Int)) hpl hR (show q + 1 ≤ p by omega) hp
      have c3 := hR (pl q) (hpl.1 q (by omega))
      rw [nx_at hpl (by omega), show min (cum (fun j => r j ≤ (t : Int)) R pl (q + 1)) S = cum (fun j => r j ≤ (t : Int)) R pl (q + 1) by grind, show min (cum (fun j => r j ≤ (t : Int)) R pl q) S = cum (fun j => r j ≤ (t : Int)) R pl q by grind, c1, show R (pl q) - (cum (fun j => r j ≤ (t : Int)) R pl q + R (pl q) - cum (fun j => r j ≤ (t : Int)) R pl q) = 0 by grind, Rat.zero_mul] at e
      exact Rat.intCast_eq_zero_iff.mp e
    -- a place behind p whose cell is 0 has nothing left
    have none_ : ∀ q, p ≤ q → q < n → D 722 (pl q) ≤ 0 → R (pl q) = 0 := fun q q1 q2 q3 => by
      have e := a4 q q2
      rw [if_neg (by omega)] at e
      have c3 := hR (pl q) (hpl.1 q q2)
      have c4 := hdp (pl q) (hpl.1 q q2)
      have c5 : (D 722 (pl q) : Rat) ≤ 0 := Rat.intCast_le_intCast.mpr q3
      rw [e] at c5
      have : R (pl q) ≤ 0 := by
        refine Rat.le_of_mul_le_mul_right ?_ c4
        rw [Rat.zero_mul]; exact c5
      grind
    have flat : ∀ p', p ≤ p' → p' ≤ n → (∀ q, p ≤ q → q < p' → r (pl q) ≤ (t : Int) → D 722 (pl q) ≤ 0) → ∀ q, p ≤ q → q ≤ p' → cum (fun j => r j ≤ (t : Int)) R pl q = cum (fun j => r j ≤ (t : Int)) R pl p := by
      intro p' h1 h2 h3 q q1 q2
      obtain ⟨k, rfl⟩ : ∃ k, q = p + k := ⟨q - p, by omega⟩
      clear q1
      induction k with
      | zero => rfl
      | succ k ihk =>
        have e := ihk (by omega)
        rcases Classical.em (r (pl (p + k)) ≤ (t : Int)) with y | y
        · rw [show p + (k + 1) = (p + k) + 1 by omega, cum_t y, e, none_ (p + k) (by omega) (by omega) (h3 (p + k) (by omega) (by omega) y)]
          grind
        · rw [show p + (k + 1) = (p + k) + 1 by omega, cum_f y, e]
    rcases hj with ⟨j1, j2⟩ | ⟨p', p1, p2, p3, p4, p5⟩
    · exfalso
      have := flat n hp (Nat.le_refl n) (fun q q1 q2 q3 => j2 (pl q) (hpl.1 q q2) q3) n hp (Nat.le_refl n)
      grind
    · have hpp : p ≤ p' := by
        rcases Nat.lt_or_ge p' p with y | y
        · have := gone p' y p3; omega
        · exact y
      have fl := flat p' hpp (by omega) (fun q q1 q2 q3 => p5 q q2 q3)
      have cp := fl p' hpp (Nat.le_refl _)
      have h' := h.jump hpl hpp (by omega) (fun q q1 q2 => by rw [fl q q1 q2])
      obtain ⟨b1, b2, b3, b4, b5, b6⟩ := h'
      have hjn := hpl.1 p' p1
      have hj12 : pl p' < 12 := by omega
      have left := b4 p' p1
      rw [if_neg (Nat.lt_irrefl p')] at left
      have Rp : 0 < R (pl p') := by
        have c3 := hR (pl p') hjn
        rcases Rat.le_iff_lt_or_eq.mp c3 with y | y
        · exact y
        · rw [← y, Rat.zero_mul] at left
          have := Rat.intCast_eq_zero_iff.mp left
          omega
      have dB := hden p' p1 p3 Rp (by rw [cp]; exact clt)
      rw [dB] at left
      have cp1 := cum_t (R := R) (pl := pl) (el := fun j => r j ≤ (t : Int)) (p := p') p3
      have nxp := nx_at (el := fun j => r j ≤ (t : Int)) (s := S) (R := R) hpl p1
      have cm : min (cum (fun j => r j ≤ (t : Int)) R pl p') S = cum (fun j => r j ≤ (t : Int)) R pl p' := by grind
      rw [cm] at nxp b3
      have pe : ((min (D 722 (pl p')) (A - used) : Int) : Rat) = (min (cum (fun j => r j ≤ (t : Int)) R pl (p' + 1)) S - cum (fun j => r j ≤ (t : Int)) R pl p') * (B : Rat) := by
        rw [cp1]
        rcases Int.le_total (D 722 (pl p')) (A - used) with y | y
        · rw [Int.min_eq_left y]
          have y2 : (D 722 (pl p') : Rat) ≤ ((A - used : Int) : Rat) := Rat.intCast_le_intCast.mpr y
          rw [Rat.intCast_sub, left, b3, ← hS] at y2
          have y3 : R (pl p') ≤ S - cum (fun j => r j ≤ (t : Int)) R pl p' := Rat.le_of_mul_le_mul_right (by grind) Bq
          rw [left, show min (cum (fun j => r j ≤ (t : Int)) R pl p' + R (pl p')) S = cum (fun j => r j ≤ (t : Int)) R pl p' + R (pl p') by grind]
          grind
        · rw [Int.min_eq_right y]
          have y2 : ((A - used : Int) : Rat) ≤ (D 722 (pl p') : Rat) := Rat.intCast_le_intCast.mpr y
          rw [Rat.intCast_sub, left, b3, ← hS] at y2
          have y3 : S - cum (fun j => r j ≤ (t : Int)) R pl p' ≤ R (pl p') := Rat.le_of_mul_le_mul_right (by grind) Bq
          rw [Rat.intCast_sub, b3, ← hS, show min (cum (fun j => r j ≤ (t : Int)) R pl p' + R (pl p')) S = S by grind]
          grind
      have ue : ((used + min (D 722 (pl p')) (A - used) : Int) : Rat) = min (cum (fun j => r j ≤ (t : Int)) R pl (p' + 1)) S * (B : Rat) := by
        rw [Rat.intCast_add, pe, b3]; grind
      have le : ((D 722 (pl p') - min (D 722 (pl p')) (A - used) : Int) : Rat) = nx n pl (fun j => r j ≤ (t : Int)) S R (pl p') * (B : Rat) := by
        rw [Rat.intCast_sub, pe, left, nxp]; grind
      -- what follows a part
      have goon : ∀ D' z7, WM n pl (fun j => r j ≤ (t : Int)) S R den (B : Rat) t D0 D' (p' + 1) (used + min (D 722 (pl p')) (A - used)) → Sg g M_Mo_workPlan Q 196 [vR 708, vU, vI last, vI t, vL (used + min (D 722 (pl p')) (A - used)), vU, vI (pl p'), z7, vU] [] D' := by
        intro D' z7 h''
        have jm' : JM D' n r d w := h0.of (by rw [h''.1 708 (by omega) (by omega) (by omega)]) fun c c1 c2 => h''.1 c (by omega) (by omega) (by omega)
        refine s_Mo_workPlan_196 ((nextJob_ok f jm').mono fun y D4 r4 => ?_)
        obtain ⟨rfl, nj⟩ := r4
        refine s_Mo_workPlan_201 ?_
        rcases Rat.le_total (a := cum (fun j => r j ≤ (t : Int)) R pl (p' + 1)) (b := S) with y | y
        · exact ih (p' + 1) _ _ D4 _ _ _ (by omega) (by omega) y h'' nj
        · exact stop (p' + 1) _ _ D4 _ _ _ (by omega) y h''
      have tj : ∀ D' : DD, (∀ q, q < n → D' 722 (pl q) = if q = p' then D 722 (pl p') - min (D 722 (pl p')) (A - used) else D 722 (pl q)) → ∀ q, q < n → (D' 722 (pl q) : Rat) = (if q < p' + 1 then nx n pl (fun j => r j ≤ (t : Int)) S R (pl q) else R (pl q)) * den (pl q) := by
        intro D' hD q hq
        rw [hD q hq]
        rcases (show q = p' ∨ q < p' ∨ p' < q by omega) with y | y | y
        · subst y
          rw [if_pos rfl, if_pos (by omega), le, dB]
        · rw [if_neg (by omega), if_pos (by omega), b4 q hq, if_pos y]
        · rw [if_neg (by omega), if_neg (by omega), b4 q hq, if_neg (by omega)]
      have jne : ∀ q, q < n → q ≠ p' → pl q ≠ pl p' := fun q hq z e => z (hpl.inj hq p1 e)
      have part : ∀ y0, y0 = min (D 722 (pl p')) (A - used) → ∀ z7 z8, Sg g M_Mo_workPlan Q 136 [vR 708, vU, vI last, vI t, vL used, vU, vI (pl p'), z7, z8] [vL y0] D := by
        intro y0 ey z7 z8
        have pp : 1 ≤ min (D 722 (pl p')) (A - used) := by omega
        refine sg_ok fun _ _ ok => ?_
        have lb : R64 (D 722 (pl p')) := zk_r64 ok zk_722 (pl p')
        obtain ⟨lb1, lb2⟩ := lb
        have m1 : (t : Int) * A ≤ 200 * 12000 := Int.mul_le_mul (by omega) hA2.2 (by omega) (by omega)
        have m2 := Int.mul_nonneg (show (0 : Int) ≤ t by omega) (show 0 ≤ A by omega)
        rw [ey]
        refine s_Mo_workPlan_136 ⟨⟨by omega, by unfold R64; omega, by omega⟩, fun D4 e4 => ⟨⟨by unfold R64; omega, by omega⟩, fun q => ?_, fun q => ?_⟩⟩
        · have r7 : ∀ q, q < n → D4 722 (pl q) = if q = p' then D 722 (pl p') - min (D 722 (pl p')) (A - used) else D 722 (pl q) := fun q hq => by
            rw [e4]
            split
            · next y => subst y; exact zw_eq _ _ _ _
            · next y => exact zw_ne (Or.inr fun z => jne q hq y (by omega))
          have r9 : RF 96 120 248 253 D D4 := RF.off (by rw [e4, zw_off (by omega)]) (by rw [e4, zw_off (by omega)])
          have mr4 : ∀ m, mr D4 m = mr D m := fun m => by unfold mr; rw [e4, zw_off (by omega)]
          have d710 : D4 710 = D 710 := by rw [e4, zw_off (by omega)]
          refine goon D4 _ ⟨fun c c1 c2 c3 => by rw [e4, zw_off c3]; exact b1 c c1 c2 c3, b2.tr r9, ue, tj D4 r7, fun q' hq q1 r0 z => ?_, fun q' hq z m m1 m2 => ?_⟩
          · rcases (show q' = p' ∨ q' < p' by omega) with y | y
            · subst y
              rw [z, Rat.zero_mul] at le
              have := Rat.intCast_eq_zero_iff.mp le
              rw [r7 q' hq, if_pos rfl] at q
              exact absurd this q
            · have o := b5 q' hq y r0 z
              exact ⟨o.1.of (by rw [d710]) (fun j _ _ => by rw [mr4]), o.2.of (by rw [d710]) (fun j _ _ => by rw [mr4])⟩
          · have o := b6 q' hq (by rcases z with z | z; · exact Or.inl (by omega)
                                   · exact Or.inr z) m m1 m2
            exact ⟨by rw [d710]; exact o.1, fun j x1 x2 => by rw [mr4]; exact o.2 j x1 x2⟩
        · have e17 : D4 717 t = A := by rw [e4, zw_off (by omega)]; exact e717
          rw [e17]
          refine ⟨⟨by unfold R32; omega, by omega, by unfold R64; omega, by unfold R64; omega, by omega⟩, ?_⟩
          refine (mtell_ok (f := 48 + (pl p' : Int)) (by omega) (by omega) hA2.1).mono fun D5 r5 => ?_
          obtain ⟨r5a, r5b⟩ := r5
          have o709 : ∀ c, c ≠ 709 → c ≠ 710 → D5 c = D4 c := r5b.1
          have r7 : ∀ q, q < n → D5 722 (pl q) = if q = p' then D 722 (pl p') - min (D 722 (pl p')) (A - used) else D 722 (pl q) := fun q hq => by
            rw [o709 722 (by omega) (by omega), e4]
            split
            · next y => subst y; exact zw_eq _ _ _ _
            · next y => exact zw_ne (Or.inr fun z => jne q hq y (by omega))
          have mr4 : ∀ m, mr D4 m = mr D m := fun m => by unfold mr; rw [e4, zw_off (by omega)]
          have d710 : D4 710 = D 710 := by rw [e4, zw_off (by omega)]
          have r9 : RF 96 120 248 253 D D4 := RF.off (by rw [e4, zw_off (by omega)]) (by rw [e4, zw_off (by omega)])
          have ev : ((((t : Int) * A) + (used + min (D 722 (pl p')) (A - used)) : Int) : Rat) / (A : Rat) = (t : Rat) + min (cum (fun j => r j ≤ (t : Int)) R pl (p' + 1)) S / S := by
            rw [Rat.intCast_add, Rat.intCast_mul, ue, ← hS, show (((t : Nat) : Int) : Rat) = (t : Rat) from rfl]
            generalize min (cum (fun j => r j ≤ (t : Int)) R pl (p' + 1)) S = mm
            grind
          rw [ev] at r5a
          have sep : ∀ q m : Int, q ≠ (pl p' : Int) → 0 ≤ q → q < 12 → 2 * (48 + q) ≤ m → m < 2 * (48 + q) + 2 → (m < 2 * (48 + (pl p' : Int)) ∨ 2 * (48 + (pl p' : Int)) + 2 ≤ m) ∧ (m < 248 ∨ 253 ≤ m) := fun q m h1 h2 h3 h4 h5 => by omega
          refine goon D5 _ ⟨fun c c1 c2 c3 => by rw [o709 c c1 c2, e4, zw_off c3]; exact b1 c c1 c2 c3, (b2.tr r9).tr (r5b.rows.mono fun m _ _ => by omega), ue, tj D5 r7, fun q' hq q1 r0 z => ?_, fun q' hq z m m1 m2 => ?_⟩
          · rcases (show q' = p' ∨ q' < p' by omega) with y | y
            · rw [y]; exact r5a
            · have o := b5 q' hq y r0 z
              have o4 : Mq D4 (48 + pl q') ((t : Rat) + min (cum (fun j => r j ≤ (t : Int)) R pl (q' + 1)) S / S) := ⟨o.1.of (by rw [d710]) (fun j _ _ => by rw [mr4]), o.2.of (by rw [d710]) (fun j _ _ => by rw [mr4])⟩
              have ne := jne q' hq (by omega)
              have h12 := hpl.1 q' hq
              exact o4.fm r5b (by omega)
          · have hq' : q' ≠ p' := fun y => by
              subst y
              rcases z with z | z
              · omega
              · refine z ⟨Rp, ?_⟩
                have l0 : D 722 (pl q') - min (D 722 (pl q')) (A - used) = 0 := by rw [e4, zw_eq] at q; exact q
                rw [l0] at le
                rcases Rat.mul_eq_zero.mp le.symm with y | y
                · exact y
                · rw [y] at Bq; exact absurd Bq Rat.lt_irrefl
            have ne := jne q' hq hq'
            have h12 := hpl.1 q' hq
            have sp := sep (pl q') m (by omega) (by omega) (by omega) m1 m2
            have o5 := r5b.2 m sp.1 sp.2
            have o := b6 q' hq (by rcases z with z | z; · exact Or.inl (by omega)
                                   · exact Or.inr z) m m1 m2
            exact ⟨by rw [o5.1, d710]; exact o.1, fun j x1 x2 => by rw [o5.2 j x1 x2, mr4]; exact o.2 j x1 x2⟩
      rw [p2]
      refine s_Mo_workPlan_80 ⟨fun q => by omega, fun _ => ⟨by omega, fun q => by omega, fun q => ?_⟩⟩
      rw [e717]
      refine ⟨⟨by omega, by omega, by unfold R64; omega⟩, fun q2 => ⟨⟨by omega, by unfold R64; omega⟩, part _ (by omega) _ _⟩, fun q2 => ⟨by omega, part _ (by omega) _ _⟩⟩
end MPLAN5
