/-! the Planner: workOffAt, its walk -/
theorem Fq.cells {D D' : DD} {a : Nat} {x : Rat} (h : Fq D a x) (q : ∀ c, a ≤ c → c < a + 5 → D' c = D c) : Fq D' a x :=
  ⟨h.1.of (q (a + 1) (by omega) (by omega)) (q (a + 2) (by omega) (by omega)), h.2.of (q (a + 3) (by omega) (by omega)) (q (a + 4) (by omega) (by omega))⟩
theorem zk_r32 {D : DD} (ok : okD zE D) {a n x : Nat} (k : zk a = (1, n, x)) (j : Int) : R32 (D a j) := by
  have h := ok a (zk_lt k (by decide)) j
  rw [k] at h
  exact h
section PLAN7
variable {g : GG} {D D0 : DD} {n a : Nat} {r d w : Nat → Int} {pl : Nat → Nat}
theorem workAt_loop (k : zk a = (0, 5, 0)) (f : JF n r d w pl) (h0 : JC D0 n r d w pl) {t : Nat} {gi room Tg : Int} {R : Nat → Rat} {S : Rat} (ht : t < 200) (hgi : 0 ≤ gi) (hroom : 0 < room ∧ room ≤ 12000) (hTg : 0 < Tg ∧ Tg ≤ 200) (hS : S * (Tg : Rat) = (room : Rat)) (hR : ∀ j, j < n → 0 ≤ R j)
    (hT : ∀ j : Nat, j < n → D0 461 j = gi → D0 459 (D0 461 j) = Tg) :
    ∀ (m p : Nat) (used : Int) (D : DD) (z8 z9 : VV), p + m = n → 0 ≤ used → WA n a pl (fun j => D0 461 j = gi ∧ r j ≤ (t : Int)) S R (fun j => (D0 459 (D0 461 j) : Rat)) (Tg : Rat) t D0 D p used →
      Sg g M_Pl_workOffAt (rV (fun D' => ∃ used', WA n a pl (fun j => D0 461 j = gi ∧ r j ≤ (t : Int)) S R (fun j => (D0 459 (D0 461 j) : Rat)) (Tg : Rat) t D0 D' n used')) 36 [vR 457, vR 1, vR a, vI t, vI gi, vI room, vI used, vI p, z8, z9] [] D := by
  have hn := f.1
  have hpl := f.2.2.2
  have pa := pr_at k
  have n464 : (464 : Nat) ≠ a + 5 := by omega
  have nca : ∀ c, a + 131 ≤ c → c ≠ a + 5 := fun c h => by omega
  have geo : ∀ i c : Nat, i < 12 → a + 131 + 5 * i ≤ c → c < a + 136 + 5 * i → c ≠ 464 ∧ a + 131 ≤ c ∧ c < a + 191 := fun i c h1 h2 h3 => by omega
  have geo5 : ∀ i c : Nat, i < 12 → a + 131 + 5 * i ≤ c → c < a + 131 + 5 * i + 5 → c ≠ 464 ∧ a + 131 ≤ c ∧ c < a + 191 := fun i c h1 h2 h3 => by omega
  have geo2 : ∀ i j c : Nat, i ≠ j → a + 131 + 5 * i ≤ c → c < a + 131 + 5 * i + 5 → (c < a + 131 + 5 * j ∨ a + 131 + 5 * j + 5 ≤ c) := fun i j c h1 h2 h3 => by omega
  have g464 : ∀ j : Nat, j < 12 → (464 < a + 131 + 5 * j ∨ a + 131 + 5 * j + 5 ≤ 464) := fun j h1 => by omega
  have ga5 : ∀ j : Nat, a + 5 < a + 131 + 5 * j ∨ a + 131 + 5 * j + 5 ≤ a + 5 := fun j => by omega
  have gout : ∀ j c : Nat, j < 12 → (c < a + 131 ∨ a + 191 ≤ c) → (c < a + 131 + 5 * j ∨ a + 131 + 5 * j + 5 ≤ c) := fun j c h1 h2 => by omega
  have g136 : ∀ i c : Nat, c < a + 136 + 5 * i → c < a + 131 + 5 * i + 5 := fun i c h => by omega
  have Tq : (0 : Rat) < (Tg : Rat) := Rat.intCast_pos.mpr hTg.1
  have rq : (0 : Rat) < (room : Rat) := Rat.intCast_pos.mpr hroom.1
  have Sp : 0 < S := by
    rcases Rat.le_total (a := S) (b := 0) with y | y
    · have := Rat.mul_le_mul_of_nonneg_right y (Rat.le_of_lt Tq)
      grind
    · rcases Rat.le_iff_lt_or_eq.mp y with z | z
      · exact z
      · rw [← z, Rat.zero_mul] at hS; grind
  intro m
  induction m with
  | zero =>
    intro p used D z8 z9 hm hu h
    obtain rfl : p = n := by omega
    have h1 : D 1 0 = p := by rw [h.1.1 1 (by omega) (by omega) (by omega)]; exact h0.1
    exact s_Pl_workOffAt_36 k ⟨fun _ => retV ⟨used, h⟩, fun q => by omega⟩
  | succ m ih =>
    intro p used D z8 z9 hm hu h
    have hp : p < n := by omega
    have hj := hpl.1 p hp
    obtain ⟨a1, a2, a3, a4, a5, a6⟩ := h
    have h1 : D 1 0 = n := by rw [a1.1 1 (by omega) (by omega) (by omega)]; exact h0.1
    have h5 : D 5 p = pl p := by rw [a1.1 5 (by omega) (by omega) (by omega)]; exact h0.2.2 p hp
    have h2 : D 2 (pl p) = r (pl p) := by rw [a1.1 2 (by omega) (by omega) (by omega)]; exact (h0.2.1 _ hj).1
    have h61 : D 461 (pl p) = D0 461 (pl p) := by rw [a1.1 461 (by omega) (by omega) (by omega)]
    have lp := a3 p hp
    rw [if_neg (Nat.lt_irrefl p)] at lp
    have bd := part_bd (el := fun j => D0 461 j = gi ∧ r j ≤ (t : Int)) (s := S) hpl hR hp
    -- nothing is done at this place
    have skip : nx n pl (fun j => D0 461 j = gi ∧ r j ≤ (t : Int)) S R (pl p) = R (pl p) → ∀ z8 z9, Sg g M_Pl_workOffAt (rV (fun D' => ∃ used', WA n a pl (fun j => D0 461 j = gi ∧ r j ≤ (t : Int)) S R (fun j => (D0 459 (D0 461 j) : Rat)) (Tg : Rat) t D0 D' n used')) 179 [vR 457, vR 1, vR a, vI t, vI gi, vI room, vI used, vI p, z8, z9] [] D := by
      intro e z8 z9
      have ce : min (cum (fun j => D0 461 j = gi ∧ r j ≤ (t : Int)) R pl (p + 1)) S = min (cum (fun j => D0 461 j = gi ∧ r j ≤ (t : Int)) R pl p) S := by
        rw [nx_at hpl hp] at e
        grind
      refine s_Pl_workOffAt_179 k ⟨by unfold R32; omega, ih (p + 1) used D _ _ (by omega) hu ⟨a1, by rw [ce]; exact a2, fun q hq => ?_, fun q hq q1 r0 z => ?_, fun q hq z => a5 q hq ?_, a6⟩⟩
      · rw [a3 q hq]
        rcases (show q = p ∨ q < p ∨ p < q by omega) with y | y | y
        · subst y; rw [if_neg (by omega), if_pos (by omega), e]
        · rw [if_pos y, if_pos (by omega)]
        · rw [if_neg (by omega), if_neg (by omega)]
      · rcases (show q = p ∨ q < p by omega) with y | y
        · subst y; rw [e] at z; rw [z] at r0; exact absurd r0 Rat.lt_irrefl
        · exact a4 q hq y r0 z
      · rcases z with z | z
        · exact Or.inl (by omega)
        · exact Or.inr z
    refine s_Pl_workOffAt_36 k ⟨fun q => by omega, fun _ => ⟨fun q => retV ⟨used, WA.full hpl hR ⟨a1, a2, a3, a4, a5, a6⟩ (by omega) ?_⟩, fun q => ⟨by omega, ?_⟩⟩⟩
    · have : ((room : Int) : Rat) ≤ (used : Rat) := Rat.intCast_le_intCast.mpr q
      rw [a2, ← hS] at this
      have := Rat.le_of_mul_le_mul_right this Tq
      grind
    have ult : (used : Rat) < (room : Rat) := Rat.intCast_lt_intCast.mpr (by omega)
    have clt : cum (fun j => D0 461 j = gi ∧ r j ≤ (t : Int)) R pl p < S := by
      rw [a2, ← hS] at ult
      have := Rat.lt_of_mul_lt_mul_right ult (Rat.le_of_lt Tq)
      grind
    have cmin : min (cum (fun j => D0 461 j = gi ∧ r j ≤ (t : Int)) R pl p) S = cum (fun j => D0 461 j = gi ∧ r j ≤ (t : Int)) R pl p := by grind
    rw [h5]
    refine (groupOf_ok (by omega)).mono fun y D2 r2 => ?_
    obtain ⟨rfl, rfl⟩ := r2
    rw [h61]
    have noel : ¬ (D0 461 (pl p) = gi ∧ r (pl p) ≤ (t : Int)) → nx n pl (fun j => D0 461 j = gi ∧ r j ≤ (t : Int)) S R (pl p) = R (pl p) := fun z => nx_off hpl hj z
    refine s_Pl_workOffAt_67 k ⟨fun q2 => skip (noel fun z => q2 z.1) _ _, fun q2 => ⟨by omega, fun q3 => skip (noel fun z => by omega) _ _, fun q3 => ⟨by omega, fun q4 => ?_, fun q4 => skip ?_ _ _⟩⟩⟩
    · have hel : D0 461 (pl p) = gi ∧ r (pl p) ≤ (t : Int) := ⟨q2, by omega⟩
      have hTj := hT _ hj q2
      have lp2 : (D2 464 (pl p) : Rat) = R (pl p) * (D0 459 (D0 461 (pl p)) : Rat) := lp
      rw [hTj] at lp2
      have cp1 := cum_t (R := R) (pl := pl) (el := fun j => D0 461 j = gi ∧ r j ≤ (t : Int)) (p := p) hel
      have Rpos : 0 < R (pl p) := by
        have e1 : (1 : Rat) ≤ (D2 464 (pl p) : Rat) := Rat.intCast_le_intCast.mpr q4
        rcases Rat.le_iff_lt_or_eq.mp (hR _ hj) with y | y
        · exact y
        · rw [lp2, ← y, Rat.zero_mul] at e1; grind
      have nxp := nx_at (el := fun j => D0 461 j = gi ∧ r j ≤ (t : Int)) (s := S) (R := R) hpl hp
      rw [cmin] at nxp a2
      -- the part
      have pe : ((min (D2 464 (pl p)) (room - used) : Int) : Rat) = (min (cum (fun j => D0 461 j = gi ∧ r j ≤ (t : Int)) R pl (p + 1)) S - cum (fun j => D0 461 j = gi ∧ r j ≤ (t : Int)) R pl p) * (Tg : Rat) := by
        rw [cp1]
        rcases Int.le_total (D2 464 (pl p)) (room - used) with y | y
        · rw [Int.min_eq_left y]
          have y2 : (D2 464 (pl p) : Rat) ≤ ((room - used : Int) : Rat) := Rat.intCast_le_intCast.mpr y
          rw [Rat.intCast_sub, lp2, a2, ← hS] at y2
          have y3 : R (pl p) ≤ S - cum (fun j => D0 461 j = gi ∧ r j ≤ (t : Int)) R pl p := Rat.le_of_mul_le_mul_right (by grind) Tq
          rw [lp2, show min (cum (fun j => D0 461 j = gi ∧ r j ≤ (t : Int)) R pl p + R (pl p)) S = cum (fun j => D0 461 j = gi ∧ r j ≤ (t : Int)) R pl p + R (pl p) by grind]
          grind
        · rw [Int.min_eq_right y]
          have y2 : ((room - used : Int) : Rat) ≤ (D2 464 (pl p) : Rat) := Rat.intCast_le_intCast.mpr y
          rw [Rat.intCast_sub, lp2, a2, ← hS] at y2
          have y3 : S - cum (fun j => D0 461 j = gi ∧ r j ≤ (t : Int)) R pl p ≤ R (pl p) := Rat.le_of_mul_le_mul_right (by grind) Tq
          rw [Rat.intCast_sub, a2, ← hS, show min (cum (fun j => D0 461 j = gi ∧ r j ≤ (t : Int)) R pl p + R (pl p)) S = S by grind]
          grind
      have pp : 1 ≤ min (D2 464 (pl p)) (room - used) := by omega
      have mid : ∀ Dm z9, FO a t D0 Dm → Dm 464 = D2 464 → (∀ c, a + 131 ≤ c → c < a + 191 → Dm c = D2 c) → (∃ q, q < n ∧ Dm (a + 5) t = pl q ∧ min (cum (fun j => D0 461 j = gi ∧ r j ≤ (t : Int)) R pl q) S = 0 ∧ 0 < min (cum (fun j => D0 461 j = gi ∧ r j ≤ (t : Int)) R pl (q + 1)) S) →
          Sg g M_Pl_workOffAt (rV (fun D' => ∃ used', WA n a pl (fun j => D0 461 j = gi ∧ r j ≤ (t : Int)) S R (fun j => (D0 459 (D0 461 j) : Rat)) (Tg : Rat) t D0 D' n used')) 110 [vR 457, vR 1, vR a, vI t, vI gi, vI room, vI used, vI p, vI (pl p), z9] [] Dm := by
        intro Dm z9 b1 b2 b3 b6
        rw [← b2] at pe pp lp2 q4
        have ue : ((used + min (Dm 464 (pl p)) (room - used) : Int) : Rat) = min (cum (fun j => D0 461 j = gi ∧ r j ≤ (t : Int)) R pl (p + 1)) S * (Tg : Rat) := by
          rw [Rat.intCast_add, pe, a2]; grind
        have le : ((Dm 464 (pl p) - min (Dm 464 (pl p)) (room - used) : Int) : Rat) = nx n pl (fun j => D0 461 j = gi ∧ r j ≤ (t : Int)) S R (pl p) * (Tg : Rat) := by
          rw [Rat.intCast_sub, pe, lp2, nxp]; grind
        have tj : ∀ D' : DD, (∀ q, q < n → D' 464 (pl q) = if q = p then Dm 464 (pl p) - min (Dm 464 (pl p)) (room - used) else Dm 464 (pl q)) → ∀ q, q < n → (D' 464 (pl q) : Rat) = (if q < p + 1 then nx n pl (fun j => D0 461 j = gi ∧ r j ≤ (t : Int)) S R (pl q) else R (pl q)) * (fun j => (D0 459 (D0 461 j) : Rat)) (pl q) := by
          intro D' hD q hq
          rw [hD q hq]
          rcases (show q = p ∨ q < p ∨ p < q by omega) with y | y | y
          · subst y
            rw [if_pos rfl, if_pos (by omega), le]
            show _ = _ * (D0 459 (D0 461 (pl q)) : Rat)
            rw [hTj]
          · rw [if_neg (by omega), if_pos (by omega), b2, a3 q hq, if_pos y]
          · rw [if_neg (by omega), if_neg (by omega), b2, a3 q hq, if_neg (by omega)]
        refine sg_ok fun _ _ ok => ?_
        have lb : R32 (Dm 464 (pl p)) := zk_r32 ok (a := 464) (n := 12) (x := 0) (by decide +kernel) (pl p)
        obtain ⟨lb1, lb2⟩ := lb
        have hj12 : pl p < 12 := by omega
        refine s_Pl_workOffAt_110 k ⟨⟨by omega, by unfold R32; omega, by unfold R32; omega, by omega, by unfold R32; omega, by omega⟩, fun D7 e7 => ⟨by omega, fun q5 => ?_, fun q5 => ⟨⟨by omega, ?_, ?_⟩, ?_⟩⟩⟩
        · have r7 : ∀ q, q < n → D7 464 (pl q) = if q = p then Dm 464 (pl p) - min (Dm 464 (pl p)) (room - used) else Dm 464 (pl q) := fun q hq => by
            rw [e7]
            split
            · next y => subst y; exact zw_eq _ _ _ _
            · next y => exact zw_ne (Or.inr fun z => y (hpl.inj hq hp (by omega)))
          refine s_Pl_workOffAt_179 k ⟨by unfold R32; omega, ih (p + 1) _ D7 _ _ (by omega) (by omega) ⟨b1.tr ⟨fun c c1 c2 c3 => by rw [e7]; exact zw_off c1, fun u hu => by rw [e7, zw_off n464.symm]⟩, ue, tj D7 r7, fun q hq q1 r0 z => ?_, fun q hq z c c1 c2 => ?_, fun _ => ?_⟩⟩
          · rcases (show q = p ∨ q < p by omega) with y | y
            · subst y
              rw [z, Rat.zero_mul] at le
              have := Rat.intCast_eq_zero_iff.mp le
              rw [r7 q hq, if_pos rfl] at q5
              exact absurd this q5
            · exact (a4 q hq y r0 z).cells fun c c1 c2 => by
                have hq12 := hpl.1 q hq
                have gg := geo5 _ c (Nat.lt_of_lt_of_le hq12 hn) c1 c2
                rw [e7, zw_off gg.1, b3 c gg.2.1 gg.2.2]
          · have hq12 := hpl.1 q hq
            have gg := geo _ c (Nat.lt_of_lt_of_le hq12 hn) c1 c2
            rw [e7, zw_off gg.1, b3 c gg.2.1 gg.2.2]
            refine a5 q hq ?_ c c1 c2
            rcases z with z | z
            · exact Or.inl (by omega)
            · exact Or.inr z
          · obtain ⟨q, q1, q2, q3⟩ := b6
            exact ⟨q, q1, by rw [e7, zw_off n464.symm]; exact q2, q3⟩
        · have m1 : (t : Int) * room ≤ 200 * 12000 := Int.mul_le_mul (by omega) hroom.2 (by omega) (by omega)
          have m2 := Int.mul_nonneg (show (0 : Int) ≤ t by omega) (show 0 ≤ room by omega)
          unfold R64; omega
        · have m1 : (t : Int) * room ≤ 200 * 12000 := Int.mul_le_mul (by omega) hroom.2 (by omega) (by omega)
          have m2 := Int.mul_nonneg (show (0 : Int) ≤ t by omega) (show 0 ≤ room by omega)
          unfold R64; omega
        · have m1 : (t : Int) * room ≤ 200 * 12000 := Int.mul_le_mul (by omega) hroom.2 (by omega) (by omega)
          have m2 := Int.mul_nonneg (show (0 : Int) ≤ t by omega) (show 0 ≤ room by omega)
          have m3 : (((t : Int) * room) + (used + min (Dm 464 (pl p)) (room - used))) * room < 2 ^ 128 := by
            have : (((t : Int) * room) + (used + min (Dm 464 (pl p)) (room - used))) * room ≤ 2412000 * 12000 := Int.mul_le_mul (by omega) hroom.2 (by omega) (by omega)
            have e128 : (2412000 : Int) * 12000 < 2 ^ 128 := by decide
            omega
          rw [Int.toNat_natCast]
          refine (frSet_ok (zk_done k hj12) (by omega) (by omega) m3).mono fun D8 r8 => ?_
          obtain ⟨r8a, r8b⟩ := r8
          have r7 : ∀ q, q < n → D8 464 (pl q) = if q = p then Dm 464 (pl p) - min (Dm 464 (pl p)) (room - used) else Dm 464 (pl q) := fun q hq => by
            rw [r8b 464 (g464 _ hj12) (g464 _ hj12), e7]
            split
            · next y => subst y; exact zw_eq _ _ _ _
            · next y => exact zw_ne (Or.inr fun z => y (hpl.inj hq hp (by omega)))
          have ev : ((((t : Int) * room) + (used + min (Dm 464 (pl p)) (room - used)) : Int) : Rat) / (room : Rat) = (t : Rat) + min (cum (fun j => D0 461 j = gi ∧ r j ≤ (t : Int)) R pl (p + 1)) S / S := by
            rw [Rat.intCast_add, Rat.intCast_mul, ue, ← hS, show (((t : Nat) : Int) : Rat) = (t : Rat) from rfl]
            generalize min (cum (fun j => D0 461 j = gi ∧ r j ≤ (t : Int)) R pl (p + 1)) S = mm
            grind
          rw [ev] at r8a
          refine s_Pl_workOffAt_179 k ⟨by unfold R32; omega, ih (p + 1) _ D8 _ _ (by omega) (by omega) ⟨b1.tr ⟨fun c c1 c2 c3 => by rw [r8b c (gout _ c hj12 c3) (gout _ c hj12 c3), e7]; exact zw_off c1, fun u hu => by rw [r8b (a + 5) (ga5 _) (ga5 _), e7, zw_off n464.symm]⟩, ue, tj D8 r7, fun q hq q1 r0 z => ?_, fun q hq z c c1 c2 => ?_, fun _ => ?_⟩⟩
          · rcases (show q = p ∨ q < p by omega) with y | y
            · rw [y]; exact r8a
            · exact (a4 q hq y r0 z).cells fun c c1 c2 => by
                have hq12 := hpl.1 q hq
                have hne : pl q ≠ pl p := fun z => by have := hpl.inj hq hp z; omega
                have gg := geo5 _ c (Nat.lt_of_lt_of_le hq12 hn) c1 c2
                have g2 := geo2 _ _ c hne c1 c2
                rw [r8b c g2 g2, e7, zw_off gg.1, b3 c gg.2.1 gg.2.2]
          · have hq12 := hpl.1 q hq
            have hqp : q ≠ p := fun y => by
              subst y
              rcases z with z | z
              · omega
              · refine z ⟨Rpos, ?_⟩
                have l0 : Dm 464 (pl q) - min (Dm 464 (pl q)) (room - used) = 0 := by rw [e7, zw_eq] at q5; exact q5
                rw [l0] at le
                rcases Rat.mul_eq_zero.mp le.symm with y | y
                · exact y
                · rw [y] at Tq; exact absurd Tq Rat.lt_irrefl
            have hne : pl q ≠ pl p := fun z => hqp (hpl.inj hq hp z)
            have gg := geo _ c (Nat.lt_of_lt_of_le hq12 hn) c1 c2
            have g2 := geo2 _ _ c hne c1 (g136 _ _ c2)
            rw [r8b c g2 g2, e7, zw_off gg.1, b3 c gg.2.1 gg.2.2]
            refine a5 q hq ?_ c c1 c2
            rcases z with z | z
            · exact Or.inl (by omega)
            · exact Or.inr z
          · obtain ⟨q, q1, q2, q3⟩ := b6
            exact ⟨q, q1, by rw [r8b (a + 5) (ga5 _) (ga5 _), e7, zw_off n464.symm]; exact q2, q3⟩
      refine ⟨fun u0 => mid D2 _ a1 rfl (fun _ _ _ => rfl) (a6 (by omega)), fun u0 => ⟨by omega, fun D8 e8 => mid D8 _ (a1.tr ⟨fun c c1 c2 c3 => by rw [e8]; exact zw_off c2, fun u hu => by rw [e8]; exact zw_ne (Or.inr hu)⟩) (by rw [e8]; exact zw_off n464) (fun c c1 c2 => by rw [e8]; exact zw_off (nca c c1)) ⟨p, hp, by rw [e8, zw_eq], ?_, ?_⟩⟩⟩
      · rw [cmin]
        have z : ((0 : Int) : Rat) = cum (fun j => D0 461 j = gi ∧ r j ≤ (t : Int)) R pl p * (Tg : Rat) := by rw [← u0]; exact a2
        rcases Rat.mul_eq_zero.mp z.symm with y | y
        · exact y
        · rw [y] at Tq; exact absurd Tq Rat.lt_irrefl
      · have c0 := cum_nn (el := fun j => D0 461 j = gi ∧ r j ≤ (t : Int)) hpl hR (show p ≤ n by omega)
        rw [cp1]
        grind
    · have e0 : (D2 464 (pl p) : Rat) ≤ 0 := Rat.intCast_le_intCast.mpr (by omega)
      have lp2 : (D2 464 (pl p) : Rat) = R (pl p) * (D0 459 (D0 461 (pl p)) : Rat) := lp
      rw [lp2] at e0
      have hTj := hT _ hj q2
      rw [hTj] at e0
      have r0 := hR _ hj
      have : R (pl p) ≤ 0 := by
        refine Rat.le_of_mul_le_mul_right ?_ Tq
        rw [Rat.zero_mul]; exact e0
      have nn := nx_nn (el := fun j => D0 461 j = gi ∧ r j ≤ (t : Int)) (s := S) hpl hR _ hj
      have nl := nx_le (el := fun j => D0 461 j = gi ∧ r j ≤ (t : Int)) (s := S) hpl hR _ hj
      grind
end PLAN7
