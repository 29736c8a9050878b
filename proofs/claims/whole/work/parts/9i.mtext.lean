/-! the model's text -/
/-- only the model's text is changed, from a place on -/
def FT2 (L : Int) (D D' : DD) : Prop := (∀ c, c ≠ 708 → c ≠ 709 → c ≠ 710 → c ≠ 733 → D' c = D c) ∧ (∀ i : Int, i ≠ 33 → D' 708 i = D 708 i) ∧ (∀ i : Int, i < L → D' 733 i = D 733 i) ∧ RF 244 245 244 245 D D'
section MTEXT
variable {g : GG} {D D' D'' D0 : DD} {L L' v n : Int}
theorem FT2.rf : FT2 L D D := ⟨fun _ _ _ _ _ => rfl, fun _ _ => rfl, fun _ _ => rfl, RF.rf⟩
theorem FT2.tr (h : FT2 L D D') (h' : FT2 L D' D'') : FT2 L D D'' := ⟨fun c c1 c2 c3 c4 => (h'.1 c c1 c2 c3 c4).trans (h.1 c c1 c2 c3 c4), fun i hi => (h'.2.1 i hi).trans (h.2.1 i hi), fun i hi => (h'.2.2.1 i hi).trans (h.2.2.1 i hi), h.2.2.2.tr h'.2.2.2⟩
theorem FT2.le (h : FT2 L' D D') (q : L ≤ L') : FT2 L D D' := ⟨h.1, h.2.1, fun i hi => h.2.2.1 i (by omega), h.2.2.2⟩
/-- digits turned round -/
theorem swap_loop {p : Int} {c : Nat} (hp : 0 ≤ p ∧ p + c ≤ 2000) (o : Int → Int) {P : DD → Prop}
    (hk : ∀ D, (∀ c', c' ≠ 733 → D c' = D0 c') → (∀ i : Int, i < p → D 733 i = D0 733 i) → (∀ j : Nat, j < c → D 733 (p + j) = o (p + (c - 1 - j : Nat))) → P D) :
    ∀ (m s : Nat) (D : DD) (z1 z2 z3 z6 : VV), 2 * (s + m) = c ∨ 2 * (s + m) = c + 1 → (∀ c', c' ≠ 733 → D c' = D0 c') → (∀ i : Int, i < p → D 733 i = D0 733 i) → (∀ j : Nat, j < c → (j < s ∨ c ≤ j + s → D 733 (p + j) = o (p + (c - 1 - j : Nat))) ∧ (s ≤ j ∧ j + s < c → D 733 (p + j) = o (p + j))) →
      Sg g M_Mo_printNumber (rV P) 81 [vR 708, z1, z2, z3, vI (p + s), vI (p + c - 1 - s), z6] [] D := by
  intro m
  induction m with
  | zero =>
    intro s D z1 z2 z3 z6 hm hF h1 hI
    refine s_Mo_printNumber_81 ⟨fun _ => retV (hk D hF h1 fun j hj => ?_), fun q => by omega⟩
    by_cases y : j < s ∨ c ≤ j + s
    · exact (hI j hj).1 y
    · have e := (hI j hj).2 (by omega)
      rw [show (c - 1 - j : Nat) = j by omega]
      exact e
  | succ m ih =>
    intro s D z1 z2 z3 z6 hm hF h1 hI
    by_cases hs : 2 * s + 1 < c
    · have e1 := (hI s (by omega)).2 (by omega)
      have e2 := (hI (c - 1 - s) (by omega)).2 (by omega)
      have ei : p + (c : Int) - 1 - s = p + ((c - 1 - s : Nat) : Int) := by omega
      rw [ei]
      refine s_Mo_printNumber_81 ⟨fun q => by omega, fun _ => ⟨⟨by omega, by omega, by omega⟩, fun D5 e5 => ⟨by omega, fun D8 e8 => ⟨⟨by unfold R32; omega, by unfold R32; omega⟩, ?_⟩⟩⟩⟩
      rw [show p + (s : Int) + 1 = p + ((s + 1 : Nat) : Int) by omega, show p + ((c - 1 - s : Nat) : Int) + (-1) = p + (c : Int) - 1 - ((s + 1 : Nat) : Int) by omega]
      refine ih (s + 1) D8 _ _ _ _ (by omega) (fun c' hc => by rw [e8, zw_off hc, e5, zw_off hc]; exact hF c' hc) (fun i hi => ?_) (fun j hj => ⟨fun y => ?_, fun y => ?_⟩)
      · rw [e8, zw_ne (Or.inr (by omega)), e5, zw_ne (Or.inr (by omega))]; exact h1 i hi
      · rcases (show j = s ∨ j = c - 1 - s ∨ (j < s ∨ c ≤ j + s) by omega) with z | z | z
        · rw [z, e8, zw_ne (Or.inr (by omega)), e5, zw_eq, e2]
        · rw [z, e8, zw_eq, e1, show (c - 1 - (c - 1 - s) : Nat) = s by omega]
        · rw [e8, zw_ne (Or.inr (by omega)), e5, zw_ne (Or.inr (by omega))]; exact (hI j hj).1 z
      · rw [e8, zw_ne (Or.inr (by omega)), e5, zw_ne (Or.inr (by omega))]; exact (hI j hj).2 (by omega)
    · refine s_Mo_printNumber_81 ⟨fun _ => retV (hk D hF h1 fun j hj => ?_), fun q => by omega⟩
      by_cases y : j < s ∨ c ≤ j + s
      · exact (hI j hj).1 y
      · have e := (hI j hj).2 (by omega)
        rw [show (c - 1 - j : Nat) = j by omega]
        exact e
theorem mdig_loop (hv : 0 ≤ v) (hb : v < 10 ^ 144) {p : Int} (hp : 0 ≤ p ∧ p ≤ 300) {Q : Option VV → EE → DD → Prop}
    (hk : ∀ D c, 1 ≤ c → c ≤ 144 → v < 10 ^ c → (c = 1 ∨ 10 ^ (c - 1) ≤ v) → D 708 33 = p + (c : Nat) → (∀ j : Nat, j < c → D 733 (p + j) = 48 + v / 10 ^ j % 10) → FT2 p D0 D → ∀ z1 z4 z5 z6, Sg g M_Mo_printNumber Q 15 [vR 708, z1, vI p, vI 0, z4, z5, z6] [] D) :
    ∀ (m c : Nat) (D : DD) (z1 z4 z5 z6 : VV), c + m = 144 → (c = 0 ∨ 10 ^ c ≤ v) → (c ≤ 1 ∨ 10 ^ (c - 1) ≤ v) → Mn D 244 (v / 10 ^ c) → D 708 33 = p + c → (∀ j : Nat, j < c → D 733 (p + j) = 48 + v / 10 ^ j % 10) → FT2 p D0 D → Sg g M_Mo_printNumber Q 15 [vR 708, z1, vI p, vI 1, z4, z5, z6] [] D := by
  intro m
  induction m with
  | zero =>
    intro c D z1 z4 z5 z6 hm h0
    obtain rfl : c = 144 := by omega
    omega
  | succ m ih =>
    intro c D z1 z4 z5 z6 hm h0 h1 hM hL hI F
    have ps := p10s (k := c) (j := c + 1) rfl
    refine s_Mo_printNumber_15 ⟨fun q => by omega, fun _ => (mdiv_ok (n := 244) (by omega) hM (f := 10) (by omega)).mono fun y D2 r2 => ?_⟩
    obtain ⟨a1, a2, rfl⟩ := r2
    rw [hL]
    refine s_Mo_printNumber_38 ⟨⟨by unfold R32; omega, by omega⟩, fun D3 e3 => ?_⟩
    have l3 : D3 708 33 = p + c := by rw [e3, zw_off (by omega), a2.1 708 (by omega) (by omega)]; exact hL
    rw [l3]
    refine ⟨by unfold R32; omega, fun D6 e6 => ?_⟩
    have m6 : Mn D6 244 (v / 10 ^ (c + 1)) := by
      rw [ps, ← Int.ediv_ediv_of_nonneg (Int.le_of_lt p10)]
      exact a1.of (by rw [e6, zw_off (by omega), e3, zw_off (by omega)]) (fun j _ _ => by unfold mr; rw [e6, zw_off (by omega), e3, zw_off (by omega)])
    have l6 : D6 708 33 = p + ((c + 1 : Nat) : Int) := by rw [e6, zw_eq]; omega
    have i6 : ∀ j : Nat, j < c + 1 → D6 733 (p + j) = 48 + v / 10 ^ j % 10 := fun j hj => by
      rw [e6, zw_off (by omega), e3]
      rcases (show j = c ∨ j < c by omega) with y | y
      · rw [y, zw_eq]
      · rw [zw_ne (Or.inr (by omega)), a2.1 733 (by omega) (by omega)]; exact hI j y
    have F6 : FT2 p D0 D6 := by
      refine F.tr ⟨fun c' c1 c2 c3 c4 => by rw [e6, zw_off c1, e3, zw_off c4, a2.1 c' c2 c3], fun i hi => by rw [e6, zw_ne (Or.inr hi), e3, zw_off (by omega), a2.1 708 (by omega) (by omega)], fun i hi => by rw [e6, zw_off (by omega), e3, zw_ne (Or.inr (by omega)), a2.1 733 (by omega) (by omega)], ?_⟩
      exact (FM.rows (lo := 244) (hi := 245) (lo2 := 244) (hi2 := 245) a2).tr (RF.off (by rw [e6, zw_off (by omega), e3, zw_off (by omega)]) (by rw [e6, zw_off (by omega), e3, zw_off (by omega)]))
    have lead : c + 1 ≤ 1 ∨ 10 ^ (c + 1 - 1) ≤ v := by
      rw [Nat.add_sub_cancel]
      rcases h0 with y | y
      · exact Or.inl (by omega)
      · exact Or.inr y
    have mp := m6.pos
    have s0 := m6.1
    refine ⟨fun q => s_Mo_printNumber_66 ?_, fun q => s_Mo_printNumber_66 ?_⟩
    · have z : v / 10 ^ (c + 1) = 0 := by
        have := m6.nn
        omega
      have lt : v < 10 ^ (c + 1) := by
        refine Decidable.byContradiction fun u => ?_
        have := Int.le_ediv_of_mul_le (p10 (k := c + 1)) (a := 1) (b := v) (by omega)
        omega
      refine hk D6 (c + 1) (by omega) (by omega) lt ?_ l6 i6 F6 _ _ _ _
      rcases lead with y | y
      · exact Or.inl (by omega)
      · exact Or.inr y
    · have z := mp.mp (by omega)
      have le : 10 ^ (c + 1) ≤ v := by
        refine Decidable.byContradiction fun u => ?_
        rw [Int.ediv_eq_zero_of_lt hv (by omega)] at z
        omega
      exact ih (c + 1) D6 _ _ _ _ (by omega) (Or.inr le) lead m6 l6 i6 F6
theorem printNumber_ok (hn : 0 ≤ n ∧ n < 244) (h : Mn D n v) (hb : v < 2 ^ 475) {p : Int} (hp : 0 ≤ p ∧ p ≤ 300) (hL : D 708 33 = p) : CV g M_Mo_printNumber [vR 708, vI n] D (fun D' => ∃ k : Nat, 1 ≤ k ∧ k ≤ 144 ∧ D' 708 33 = p + k ∧ DS0 (D' 733) p v k ∧ FT2 p D D') := by
  have hv := h.nn
  have b10 : (2 : Int) ^ 475 < 10 ^ 144 := by decide +kernel
  have e1 : v / 10 ^ 0 = v := by
    have : (10 : Int) ^ 0 = 1 := by decide
    rw [this, Int.ediv_one]
  refine CV.intro mc_Mo_printNumber (Nat.le_of_ble_eq_true rfl) rfl (s_Mo_printNumber_0 ((mcopy_ok (a := n) (b := 244) (by omega) (by omega) (by omega) h).mono fun D1 r1 => s_Mo_printNumber_8 ?_))
  have l1 : D1 708 33 = p := by rw [r1.2.1 708 (by omega) (by omega)]; exact hL
  rw [l1]
  have F1' : FT2 p D D1 := ⟨fun c _ c2 c3 _ => r1.2.1 c c2 c3, fun i _ => by rw [r1.2.1 708 (by omega) (by omega)], fun i _ => by rw [r1.2.1 733 (by omega) (by omega)], FM.rows (lo := 244) (hi := 245) (lo2 := 244) (hi2 := 245) r1.2⟩
  refine mdig_loop (D0 := D) hv (by omega) hp (fun D2 c c1 c2 c3 c4 c5 c6 c7 z1 z4 z5 z6 => ?_) 144 0 D1 _ _ _ _ (by omega) (Or.inl rfl) (Or.inl (by omega)) (by rw [e1]; exact r1.1) (by rw [l1]; omega) (fun j hj => by omega) F1'
  refine s_Mo_printNumber_15 ⟨fun _ => ⟨by rw [c5]; unfold R32; omega, ?_⟩, fun q => absurd rfl q⟩
  rw [c5]
  have go := swap_loop (g := g) (D0 := D2) (p := p) (c := c) (by omega) (D2 733) (P := fun D' => ∃ k : Nat, 1 ≤ k ∧ k ≤ 144 ∧ D' 708 33 = p + k ∧ DS0 (D' 733) p v k ∧ FT2 p D D') (fun D3 d1 d2 d3 => ⟨c, c1, c2, by rw [d1 708 (by omega)]; exact c5, ⟨hv, c3, ?_, fun i hi => ?_⟩, c7.tr ⟨fun c' _ _ _ x4 => d1 c' x4, fun i _ => by rw [d1 708 (by omega)], d2, RF.off (d1 709 (by omega)) (d1 710 (by omega))⟩⟩) ((c + 1) / 2) 0 D2 vU (vI p) (vI 0) vU (by omega) (fun _ _ => rfl) (fun _ _ => rfl) (fun j hj => ⟨fun y => by omega, fun _ => rfl⟩)
  · rw [show p + ((0 : Nat) : Int) = p by omega, show p + (c : Int) - 1 - ((0 : Nat) : Int) = p + (c : Int) - 1 by omega] at go
    exact go
  · rcases c4 with y | y
    · exact Or.inl (by omega)
    · exact Or.inr y
  · rw [d3 i hi, c6 (c - 1 - i) (by omega)]
end MTEXT
