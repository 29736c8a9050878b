/-! decimal digits: the class's text -/
/-- k digits of v, from p on -/
def DS0 (c : Int → Int) (p v : Int) (k : Nat) : Prop := 0 ≤ v ∧ v < 10 ^ k ∧ (k ≤ 1 ∨ 10 ^ (k - 1) ≤ v) ∧ ∀ i : Nat, i < k → c (p + i) = 48 + v / 10 ^ (k - 1 - i) % 10
theorem p10 {k : Nat} : (0 : Int) < 10 ^ k := Int.pow_pos (by decide)
theorem p10s {k j : Nat} (h : j = k + 1) : (10 : Int) ^ j = 10 ^ k * 10 := by rw [h]; exact Int.pow_succ ..
theorem DS0.ext {c c' : Int → Int} {p v d : Int} {k : Nat} (h : DS0 c p v k) (hv : k = 0 ∨ 0 < v) (hd : 0 ≤ d ∧ d < 10) (h1 : ∀ i : Nat, i < k → c' (p + i) = c (p + i)) (h2 : c' (p + k) = 48 + d) : DS0 c' p (v * 10 + d) (k + 1) := by
  obtain ⟨a0, a1, a2, a3⟩ := h
  have e1 : (10 : Int) ^ (k + 1) = 10 ^ k * 10 := Int.pow_succ ..
  refine ⟨by omega, by rw [e1]; omega, ?_, fun i hi => ?_⟩
  · rcases (show k = 0 ∨ 0 < k by omega) with y | y
    · exact Or.inl (by omega)
    · refine Or.inr ?_
      rw [Nat.add_sub_cancel]
      rcases a2 with z | z
      · obtain rfl : k = 1 := by omega
        have : (10 : Int) ^ 1 = 10 := by decide
        rw [this]; omega
      · have e2 : (10 : Int) ^ k = 10 ^ (k - 1) * 10 := p10s (by omega)
        rw [e2]; omega
  · rcases (show i = k ∨ i < k by omega) with y | y
    · subst y
      rw [h2, show i + 1 - 1 - i = 0 by omega]
      have : (10 : Int) ^ 0 = 1 := by decide
      rw [this, Int.ediv_one]
      omega
    · rw [h1 i y, a3 i y]
      have e3 : (10 : Int) ^ (k + 1 - 1 - i) = 10 * 10 ^ (k - 1 - i) := by rw [Int.mul_comm]; exact p10s (by omega)
      rw [e3, ← Int.ediv_ediv_of_nonneg (by omega), show (v * 10 + d) / 10 = v by omega]
theorem DS0.nil {c : Int → Int} {p : Int} : DS0 c p 0 0 := ⟨Int.le_refl 0, by decide, Or.inl (by omega), fun i hi => by omega⟩
theorem DS0.of {c c' : Int → Int} {p v : Int} {k : Nat} (h : DS0 c p v k) (h1 : ∀ i : Nat, i < k → c' (p + i) = c (p + i)) : DS0 c' p v k := ⟨h.1, h.2.1, h.2.2.1, fun i hi => by rw [h1 i hi]; exact h.2.2.2 i hi⟩
theorem pow_le10 {a b : Nat} (h : a ≤ b) : (10 : Int) ^ a ≤ 10 ^ b := by
  obtain ⟨k, rfl⟩ : ∃ k, b = a + k := ⟨b - a, by omega⟩
  rw [Int.pow_add]
  have := Int.mul_le_mul_of_nonneg_left (show (1 : Int) ≤ 10 ^ k from by have := p10 (k := k); omega) (Int.le_of_lt (p10 (k := a)))
  rwa [Int.mul_one] at this
/-- the number of digits is one -/
theorem DS0.uniq {c c' : Int → Int} {p p' v : Int} {k k' : Nat} (h : DS0 c p v k) (h' : DS0 c' p' v k') (hk : 1 ≤ k) (hk' : 1 ≤ k') : k = k' := by
  have one : ∀ {k k' : Nat} {c c' : Int → Int} {p p' : Int}, DS0 c p v k → DS0 c' p' v k' → 1 ≤ k → 1 ≤ k' → k ≤ k' := by
    intro k k' c c' p p' h h' hk hk'
    rcases h.2.2.1 with y | y
    · omega
    · refine Decidable.byContradiction fun z => ?_
      have := pow_le10 (show k' ≤ k - 1 by omega)
      have := h'.2.1
      omega
  have a := one h h' hk hk'
  have b := one h' h hk' hk
  omega
/-- a fraction's text -/
def TX (c : Int → Int) (len : Int) (y : Rat) : Prop := ∃ k1 : Nat, 1 ≤ k1 ∧ DS0 c 0 y.num k1 ∧ ((y.den = 1 ∧ len = k1) ∨ (y.den ≠ 1 ∧ c k1 = 47 ∧ ∃ k2 : Nat, 1 ≤ k2 ∧ DS0 c ((k1 : Int) + 1) ((y.den : Nat) : Int) k2 ∧ len = k1 + 1 + k2))
theorem TX.same {c c' : Int → Int} {len len' : Int} {y : Rat} (h : TX c len y) (h' : TX c' len' y) : len = len' ∧ ∀ i : Nat, (i : Int) < len → c i = c' i := by
  obtain ⟨k1, a1, a2, a3⟩ := h
  obtain ⟨k1', b1, b2, b3⟩ := h'
  obtain rfl := a2.uniq b2 a1 b1
  have e1 : ∀ i : Nat, i < k1 → c i = c' i := fun i hi => by
    have x := a2.2.2.2 i hi
    have z := b2.2.2.2 i hi
    rw [Int.zero_add] at x z
    rw [x, z]
  rcases a3 with ⟨x1, x2⟩ | ⟨x1, x2, k2, x3, x4, x5⟩
  · rcases b3 with ⟨z1, z2⟩ | ⟨z1, _⟩
    · exact ⟨by rw [x2, z2], fun i hi => e1 i (by omega)⟩
    · exact absurd x1 z1
  · rcases b3 with ⟨z1, _⟩ | ⟨z1, z2, k2', z3, z4, z5⟩
    · exact absurd z1 x1
    · obtain rfl := x4.uniq z4 x3 z3
      refine ⟨by rw [x5, z5], fun i hi => ?_⟩
      rcases Nat.lt_trichotomy i k1 with y | y | y
      · exact e1 i y
      · rw [y, x2, z2]
      · have x := x4.2.2.2 (i - k1 - 1) (by omega)
        have z := z4.2.2.2 (i - k1 - 1) (by omega)
        rw [show (k1 : Int) + 1 + ((i - k1 - 1 : Nat) : Int) = i by omega] at x z
        rw [x, z]
/-- only the text is changed, from a place on -/
def FT (L : Int) (D D' : DD) : Prop := (∀ c, c ≠ 703 → c ≠ 704 → c ≠ 705 → (c < 706 ∨ 708 ≤ c) → D' c = D c) ∧ (∀ i : Int, i ≠ 1 → D' 703 i = D 703 i) ∧ ∀ i : Int, i < L → D' 704 i = D 704 i
section TEXT
variable {g : GG} {D D' D'' D0 : DD} {a : Nat} {L L' v : Int}
theorem FT.rf : FT L D D := ⟨fun _ _ _ _ _ => rfl, fun _ _ => rfl, fun _ _ => rfl⟩
theorem FT.tr (h : FT L D D') (h' : FT L D' D'') : FT L D D'' := ⟨fun c c1 c2 c3 c4 => (h'.1 c c1 c2 c3 c4).trans (h.1 c c1 c2 c3 c4), fun i hi => (h'.2.1 i hi).trans (h.2.1 i hi), fun i hi => (h'.2.2 i hi).trans (h.2.2 i hi)⟩
theorem FT.le (h : FT L' D D') (q : L ≤ L') : FT L D D' := ⟨h.1, h.2.1, fun i hi => h.2.2 i (by omega)⟩
theorem tpush_ok {x : Int} (hL : D 703 1 = L) (hL2 : 0 ≤ L ∧ L < 721) (hx : 0 ≤ x ∧ x < 65536) : CV g M_Te_push [vR 703, vI x] D (fun D' => D' 703 1 = L + 1 ∧ D' 704 L = x ∧ (∀ c, c ≠ 703 → c ≠ 704 → D' c = D c) ∧ FT L D D') := by
  refine CV.intro mc_Te_push (Nat.le_of_ble_eq_true rfl) rfl (s_Te_push_0 ⟨fun q => by omega, fun _ => ⟨⟨by omega, hx⟩, fun D4 e4 => ?_⟩⟩)
  have h4 : D4 703 1 = L := by rw [e4, zw_off (by omega)]; exact hL
  rw [h4]
  refine ⟨by unfold R32; omega, fun D7 e7 => retV ⟨by rw [e7, zw_eq], ?_, fun c c1 c2 => ?_, fun c c1 c2 c3 c4 => ?_, fun i hi => ?_, fun i hi => ?_⟩⟩
  · rw [e7, zw_off (by omega), e4, hL, zw_eq]
  · rw [e7, zw_off c1, e4, zw_off c2]
  · rw [e7, zw_off c1, e4, zw_off c2]
  · rw [e7, zw_ne (Or.inr hi), e4, zw_off (by omega)]
  · rw [e7, zw_off (by omega), e4, zw_ne (Or.inr (by omega))]
theorem chunk_loop {P0 ch p : Int} {k0 : Nat} (hp : 0 ≤ p) (hcap : p + k0 + 9 ≤ 721) (hch : 0 ≤ ch ∧ ch < 1000000000) (hP : 0 ≤ P0) :
    ∀ (m i k : Nat) (D : DD) (z2 z6 : VV) (f : Int), i + m = 9 → k ≤ k0 + i → k0 ≤ k → D 703 1 = p + k → DS0 (D 704) p (P0 * 10 ^ i + ch / 10 ^ (9 - i)) k → ((f = 0 ∧ k = 0) ∨ (f ≠ 0 ∧ 1 ≤ k ∧ (0 < P0 * 10 ^ i + ch / 10 ^ (9 - i) ∨ i = 9))) → (i = 9 → 1 ≤ k) → (∀ c, c ≠ 703 → c ≠ 704 → D c = D0 c) → FT (p + k0) D0 D →
      Sg g M_Te_writeChunk (rV (fun D' => ∃ k, 1 ≤ k ∧ k ≤ k0 + 9 ∧ D' 703 1 = p + k ∧ DS0 (D' 704) p (P0 * 1000000000 + ch) k ∧ (∀ c, c ≠ 703 → c ≠ 704 → D' c = D0 c) ∧ FT (p + k0) D0 D')) 9 [vR 703, vI ch, z2, vI f, vI (10 ^ (9 - i) / 10), vI i, z6] [] D := by
  intro m
  induction m with
  | zero =>
    intro i k D z2 z6 f hm hk hk0 hL hD hf h9 hC hF
    obtain rfl : i = 9 := by omega
    refine s_Te_writeChunk_9 ⟨fun _ => retV ⟨k, h9 rfl, by omega, hL, ?_, hC, hF⟩, fun q => by omega⟩
    have e1 : (10 : Int) ^ 9 = 1000000000 := by decide
    have e2 : (10 : Int) ^ (9 - 9) = 1 := by decide
    rwa [e1, e2, Int.ediv_one] at hD
  | succ m ih =>
    intro i k D z2 z6 f hm hk hk0 hL hD hf h9 hC hF
    have e9 : (10 : Int) ^ (9 - i) = 10 ^ (8 - i) * 10 := p10s (by omega)
    have pe : (10 : Int) ^ (9 - i) / 10 = 10 ^ (8 - i) := by rw [e9, Int.mul_ediv_cancel _ (by omega)]
    have pp := p10 (k := 8 - i)
    have q0 := Int.ediv_nonneg (a := ch) (b := 10 ^ (8 - i)) (by omega) (by omega)
    have q9 := Int.ediv_nonneg (a := ch) (b := 10 ^ (9 - i)) (by omega) (Int.le_of_lt p10)
    have nx : P0 * 10 ^ (i + 1) + ch / 10 ^ (9 - (i + 1)) = (P0 * 10 ^ i + ch / 10 ^ (9 - i)) * 10 + ch / 10 ^ (8 - i) % 10 := by
      rw [show 9 - (i + 1) = 8 - i by omega, e9, ← Int.ediv_ediv_of_nonneg (by omega), Int.pow_succ, Int.add_mul, Int.mul_assoc]
      have := Int.mul_ediv_add_emod (ch / 10 ^ (8 - i)) 10
      omega
    have dd : 0 ≤ ch / 10 ^ (8 - i) % 10 ∧ ch / 10 ^ (8 - i) % 10 < 10 := by omega
    have pe2 : (10 : Int) ^ (8 - i) / 10 = 10 ^ (9 - (i + 1)) / 10 := by rw [show 9 - (i + 1) = 8 - i by omega]
    have P1 := Int.mul_nonneg hP (Int.le_of_lt (p10 (k := i)))
    -- a digit is pushed
    have go : (k = 0 ∨ 0 < P0 * 10 ^ i + ch / 10 ^ (9 - i)) → (0 < (P0 * 10 ^ i + ch / 10 ^ (9 - i)) * 10 + ch / 10 ^ (8 - i) % 10 ∨ i = 8) → ∀ z2 z3, Sg g M_Te_writeChunk (rV (fun D' => ∃ k, 1 ≤ k ∧ k ≤ k0 + 9 ∧ D' 703 1 = p + k ∧ DS0 (D' 704) p (P0 * 1000000000 + ch) k ∧ (∀ c, c ≠ 703 → c ≠ 704 → D' c = D0 c) ∧ FT (p + k0) D0 D')) 45 [vR 703, vI ch, z2, z3, vI (10 ^ (8 - i)), vI i, vI (ch / 10 ^ (8 - i) % 10)] [] D := fun h1 h2 z2 z3 => by
      refine s_Te_writeChunk_45 (s_Te_writeChunk_50 ⟨fun q => by omega, fun _ => ⟨⟨by unfold R32; omega, by omega⟩, (tpush_ok hL (by omega) (by omega)).mono fun D2 r2 => s_Te_writeChunk_65 ⟨⟨by omega, by unfold R32; omega⟩, ?_⟩⟩⟩)
      obtain ⟨a1, a2, a3, a4⟩ := r2
      rw [pe2]
      refine ih (i + 1) (k + 1) D2 _ _ 1 (by omega) (by omega) (by omega) (by rw [a1]; omega) ?_ (Or.inr ⟨by omega, by omega, ?_⟩) (fun _ => by omega) (fun c c1 c2 => (a3 c c1 c2).trans (hC c c1 c2)) (hF.tr (a4.le (by omega)))
      · rw [nx]
        exact hD.ext h1 dd (fun j hj => a4.2.2 _ (by omega)) a2
      · rw [nx]
        rcases h2 with h2 | h2
        · exact Or.inl h2
        · exact Or.inr (by omega)
    refine s_Te_writeChunk_9 ⟨fun q => by omega, fun _ => ?_⟩
    rw [pe]
    refine ⟨fun q => by omega, fun _ => ⟨⟨⟨by omega, by omega⟩, q0⟩, fun q => ?_, fun q => ⟨fun q2 => ?_, fun q2 => ⟨fun q3 => ?_, fun q3 => ?_⟩⟩⟩⟩
    · rcases hf with hf | hf
      · omega
      · have pz : 0 < P0 * 10 ^ i + ch / 10 ^ (9 - i) := by
          rcases hf.2.2 with y | y
          · exact y
          · omega
        exact go (Or.inr pz) (Or.inl (by omega)) _ _
    · rcases hf with hf | hf
      · have hD2 := hD.2.1
        rw [hf.2] at hD2
        have e0 : (10 : Int) ^ 0 = 1 := by decide
        exact go (Or.inl hf.2) (Or.inl (by omega)) _ _
      · omega
    · rcases hf with hf | hf
      · refine s_Te_writeChunk_50 ⟨fun _ => s_Te_writeChunk_65 ⟨⟨by omega, by unfold R32; omega⟩, ?_⟩, fun q => by omega⟩
        rw [pe2]
        have hD2 := hD.2.1
        rw [hf.2] at hD2
        have e0 : (10 : Int) ^ 0 = 1 := by decide
        have i8 : i ≠ 8 := fun z => q3 (by rw [z]; decide)
        refine ih (i + 1) k D _ _ 0 (by omega) (by omega) (by omega) hL ?_ (Or.inl ⟨rfl, hf.2⟩) (fun z => by omega) hC hF
        rw [nx, q2, hf.2, show (P0 * 10 ^ i + ch / 10 ^ (9 - i)) = 0 by omega]
        exact DS0.nil
      · omega
    · rcases hf with hf | hf
      · have i8 : i = 8 := by
          refine Decidable.byContradiction fun z => ?_
          have := pow_le10 (show 1 ≤ 8 - i by omega)
          have e1 : (10 : Int) ^ 1 = 10 := by decide
          omega
        exact go (Or.inl hf.2) (Or.inr i8) _ _
      · omega
theorem writeChunk_ok {P0 ch p wh : Int} {k0 : Nat} (hp : 0 ≤ p) (hcap : p + k0 + 9 ≤ 721) (hch : 0 ≤ ch ∧ ch < 1000000000) (hL : D 703 1 = p + k0) (hD : DS0 (D 704) p P0 k0) (hw : (wh = 0 ∧ k0 = 0) ∨ (wh ≠ 0 ∧ 1 ≤ k0 ∧ 0 < P0)) : CV g M_Te_writeChunk [vR 703, vI ch, vI wh] D (fun D' => ∃ k, 1 ≤ k ∧ k ≤ k0 + 9 ∧ D' 703 1 = p + k ∧ DS0 (D' 704) p (P0 * 1000000000 + ch) k ∧ (∀ c, c ≠ 703 → c ≠ 704 → D' c = D c) ∧ FT (p + k0) D D') := by
  have e0 : (10 : Int) ^ 0 = 1 := by decide
  have e9 : (10 : Int) ^ (9 - 0) = 1000000000 := by decide
  have e8 : (10 : Int) ^ (9 - 0) / 10 = 100000000 := by decide
  have d0 : ch / 1000000000 = 0 := Int.ediv_eq_zero_of_lt hch.1 hch.2
  refine CV.intro mc_Te_writeChunk (Nat.le_of_ble_eq_true rfl) rfl (s_Te_writeChunk_0 ?_)
  have := chunk_loop (g := g) (D0 := D) (P0 := P0) (ch := ch) (p := p) (k0 := k0) hp hcap hch hD.1 9 0 k0 D (vI wh) vU wh (by omega) (by omega) (Nat.le_refl _) hL (by rw [e0, e9, d0, Int.mul_one, Int.add_zero]; exact hD) (by
    rw [e0, e9, d0, Int.mul_one, Int.add_zero]
    rcases hw with h | h
    · exact Or.inl h
    · exact Or.inr ⟨h.1, h.2.1, Or.inl h.2.2⟩) (fun z => by omega) (fun _ _ _ => rfl) FT.rf
  rw [e8] at this
  exact this
end TEXT
