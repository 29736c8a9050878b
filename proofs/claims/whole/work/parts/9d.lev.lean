/-! levels: level, convex, clear, about -/
def LF (lv : Nat) (rt ct : Nat → Int) : Prop := lv ≤ 8 ∧ (∀ i, i < lv → (1 ≤ rt i ∧ rt i ≤ 10000) ∧ 0 ≤ ct i ∧ ct i ≤ 1000000) ∧ ∀ i, i + 1 < lv → rt i < rt (i + 1)
def LC (D : DD) (lv : Nat) (rt ct : Nat → Int) : Prop := D 6 0 = lv ∧ ∀ i : Nat, i < lv → D 7 i = rt i ∧ D 8 i = ct i
def LM (D : DD) (lv : Nat) (rt ct : Nat → Int) : Prop := D 708 7 = lv ∧ ∀ i : Nat, i < lv → D 714 i = rt i ∧ D 715 i = ct i
def lz (lv : Nat) (f : Nat → Int) (x : Int) : Int := if 0 ≤ x ∧ x < lv then f x.toNat else 0
def vlev (lv : Nat) (rt : Nat → Int) (a b : Int) : Prop := 1 ≤ a ∧ a ≤ 10000 ∧ 0 ≤ b ∧ b ≤ 1000000 ∧ lv < 8 ∧ lz lv rt ((lv : Int) - 1) < a
def cvx (lv : Nat) (rt ct : Nat → Int) (i : Int) : Prop := (lz lv ct (i - 1) - lz lv ct (i - 2)) * (lz lv rt i - lz lv rt (i - 1)) ≤ (lz lv ct i - lz lv ct (i - 1)) * (lz lv rt (i - 1) - lz lv rt (i - 2))
def CX (lv : Nat) (rt ct : Nat → Int) (y : Int) : Prop := (y = 1 ∧ ∀ i : Int, 1 ≤ i → i < lv → cvx lv rt ct i) ∨ (y = 0 ∧ ∃ i : Int, 1 ≤ i ∧ i < lv ∧ ¬ cvx lv rt ct i)
theorem CX.unique {lv : Nat} {rt ct : Nat → Int} {y y' : Int} (h : CX lv rt ct y) (h' : CX lv rt ct y') : y = y' := by
  rcases h with ⟨a, b⟩ | ⟨a, i, b1, b2, b3⟩
  · rcases h' with ⟨a', b'⟩ | ⟨a', i, b1, b2, b3⟩
    · rw [a, a']
    · exact absurd (b i b1 b2) b3
  · rcases h' with ⟨a', b'⟩ | ⟨a', i', b1', b2', b3'⟩
    · exact absurd (b' i b1 b2) b3
    · rw [a, a']
section LEV
variable {g : GG} {D D0 : DD} {n lv : Nat} {r d w rt ct : Nat → Int} {pl : Nat → Nat} {a b : Int}
theorem lz_bd {f : Nat → Int} {B : Int} (hB : 0 ≤ B) (h : ∀ i, i < lv → 0 ≤ f i ∧ f i ≤ B) (x : Int) : 0 ≤ lz lv f x ∧ lz lv f x ≤ B := by
  unfold lz
  split
  · exact h _ (by omega)
  · omega
theorem LF.rb (f : LF lv rt ct) (x : Int) : 0 ≤ lz lv rt x ∧ lz lv rt x ≤ 10000 := lz_bd (by omega) (fun i hi => by have := (f.2.1 i hi).1; omega) x
theorem LF.cb (f : LF lv rt ct) (x : Int) : 0 ≤ lz lv ct x ∧ lz lv ct x ≤ 1000000 := lz_bd (by omega) (fun i hi => (f.2.1 i hi).2) x
theorem leHas_ok (h : LC D lv rt ct) {x : Int} : CI g M_Le_has [vR 6, vI x] D (fun y D' => D' = D ∧ y = if 0 ≤ x ∧ x < lv then 1 else 0) := by
  have h1 := h.1
  refine CI.intro mc_Le_has (Nat.le_of_ble_eq_true rfl) rfl (s_Le_has_0 ⟨fun q => retI ⟨rfl, ?_⟩, fun q => ⟨fun q2 => retI ⟨rfl, ?_⟩, fun q2 => retI ⟨rfl, ?_⟩⟩⟩)
  · rw [if_neg (by omega)]
  · rw [if_neg (by omega)]
  · rw [if_pos (by omega)]
theorem rateOf_ok (f : LF lv rt ct) (h : LC D lv rt ct) {x : Int} : CI g M_Le_rateOf [vR 6, vI x] D (fun y D' => D' = D ∧ y = lz lv rt x) := by
  have f1 := f.1
  refine CI.intro mc_Le_rateOf (Nat.le_of_ble_eq_true rfl) rfl (s_Le_rateOf_0 ((leHas_ok h).mono fun y D2 r2 => ?_))
  obtain ⟨rfl, rfl⟩ := r2
  refine s_Le_rateOf_5 ⟨fun q => retI ⟨rfl, ?_⟩, fun q => ⟨?_, retI ⟨rfl, ?_⟩⟩⟩
  · unfold lz; rw [if_neg (fun z => by rw [if_pos z] at q; omega)]
  · have : 0 ≤ x ∧ x < lv := Decidable.byContradiction fun z => q (if_neg z)
    omega
  · have z : 0 ≤ x ∧ x < lv := Decidable.byContradiction fun z => q (if_neg z)
    unfold lz
    rw [if_pos z]
    have := (h.2 x.toNat (by omega)).1
    rwa [Int.toNat_of_nonneg z.1] at this
theorem costOf_ok (f : LF lv rt ct) (h : LC D lv rt ct) {x : Int} : CI g M_Le_costOf [vR 6, vI x] D (fun y D' => D' = D ∧ y = lz lv ct x) := by
  have f1 := f.1
  refine CI.intro mc_Le_costOf (Nat.le_of_ble_eq_true rfl) rfl (s_Le_costOf_0 ((leHas_ok h).mono fun y D2 r2 => ?_))
  obtain ⟨rfl, rfl⟩ := r2
  refine s_Le_costOf_5 ⟨fun q => retI ⟨rfl, ?_⟩, fun q => ⟨?_, retI ⟨rfl, ?_⟩⟩⟩
  · unfold lz; rw [if_neg (fun z => by rw [if_pos z] at q; omega)]
  · have : 0 ≤ x ∧ x < lv := Decidable.byContradiction fun z => q (if_neg z)
    omega
  · have z : 0 ≤ x ∧ x < lv := Decidable.byContradiction fun z => q (if_neg z)
    unfold lz
    rw [if_pos z]
    have := (h.2 x.toNat (by omega)).2
    rwa [Int.toNat_of_nonneg z.1] at this
theorem ext_lf (f : LF lv rt ct) (hv : vlev lv rt a b) : LF (lv + 1) (ext rt lv a) (ext ct lv b) := by
  obtain ⟨v1, v2, v3, v4, v5, v6⟩ := hv
  refine ⟨by omega, fun i hi => ?_, fun i hi => ?_⟩
  · unfold ext
    rcases (show i = lv ∨ i < lv by omega) with y | y
    · rw [if_pos y, if_pos y]; omega
    · rw [if_neg (by omega), if_neg (by omega)]; exact f.2.1 i y
  · unfold ext
    rcases (show i + 1 = lv ∨ i + 1 < lv by omega) with y | y
    · rw [if_pos y, if_neg (by omega)]
      unfold lz at v6
      rw [if_pos (by omega), show ((lv : Int) - 1).toNat = i by omega] at v6
      exact v6
    · rw [if_neg (by omega), if_neg (by omega)]; exact f.2.2 i y
theorem keLevel_ok (f : LF lv rt ct) (h : LC D lv rt ct) : CI g M_Ke_level [vR 0, vI a, vI b] D (fun y D' => (¬ vlev lv rt a b ∧ y = -1 ∧ D' = D) ∨ (vlev lv rt a b ∧ y = lv + 1 ∧ D' 573 0 = 0 ∧ (∀ i : Int, i ≠ 0 → D' 573 i = D 573 i ∧ D' 6 i = D 6 i) ∧ (∀ c, c ≠ 6 → c ≠ 7 → c ≠ 8 → c ≠ 573 → D' c = D c) ∧ LC D' (lv + 1) (ext rt lv a) (ext ct lv b))) := by
  have f1 := f.1
  have h1 := h.1
  refine CI.intro mc_Ke_level (Nat.le_of_ble_eq_true rfl) rfl (s_Ke_level_0 ⟨fun q => retI (Or.inl ⟨fun v => by have := v.1; omega, rfl, rfl⟩), fun q1 => ⟨fun q => retI (Or.inl ⟨fun v => by have := v.2.1; omega, rfl, rfl⟩), fun q2 => ⟨fun q => retI (Or.inl ⟨fun v => by have := v.2.2.1; omega, rfl, rfl⟩), fun q3 => ⟨fun q4 => ⟨fun q => retI (Or.inl ⟨fun v => by have := v.2.2.2.2.1; omega, rfl, rfl⟩), fun q5 => ⟨by unfold R32; omega, ?_⟩⟩, fun q => retI (Or.inl ⟨fun v => by have := v.2.2.2.1; omega, rfl, rfl⟩)⟩⟩⟩⟩)
  rw [h1]
  refine (rateOf_ok f h).mono fun y D2 r2 => ?_
  obtain ⟨rfl, rfl⟩ := r2
  refine s_Ke_level_53 ⟨fun q6 => fun D3 e3 => ?_, fun q => retI (Or.inl ⟨fun v => q v.2.2.2.2.2, rfl, rfl⟩)⟩
  have hv : vlev lv rt a b := ⟨by omega, by omega, by omega, q4, by omega, q6⟩
  have k6 : D3 6 0 = lv := by rw [e3, zw_off (by omega)]; exact h1
  refine CI.mono (P := fun y D' => y = lv + 1 ∧ (∀ c, c ≠ 6 → c ≠ 7 → c ≠ 8 → D' c = D3 c) ∧ (∀ i : Int, i ≠ 0 → D' 6 i = D3 6 i) ∧ LC D' (lv + 1) (ext rt lv a) (ext ct lv b)) (CI.intro mc_Le_add (Nat.le_of_ble_eq_true rfl) rfl (s_Le_add_0 ⟨fun q => by omega, fun _ => ?_⟩)) (fun y D' h => s_Ke_level_75 (retI (Or.inr ⟨hv, h.1, ?_, fun i hi => ⟨?_, ?_⟩, fun c c1 c2 c3 c4 => ?_, h.2.2.2⟩)))
  · rw [k6]
    refine ⟨by omega, fun D4 e4 => ?_⟩
    have t4 : D4 6 0 = lv := by rw [e4, zw_off (by omega)]; exact k6
    rw [t4]
    refine ⟨by omega, fun D6 e6 => ?_⟩
    have t6 : D6 6 0 = lv := by rw [e6, zw_off (by omega)]; exact t4
    rw [t6]
    refine ⟨by unfold R32; omega, fun D9 e9 => s_Le_add_39 (retI ⟨by rw [e9, zw_eq], fun c c1 c2 c3 => ?_, fun i hi => ?_, by rw [e9, zw_eq]; rfl, fun i hi => ⟨?_, ?_⟩⟩)⟩
    · rw [e9, zw_off c1, e6, zw_off c3, e4, zw_off c2]
    · rw [e9, zw_ne (Or.inr hi), e6, zw_off (by omega), e4, zw_off (by omega)]
    · rw [e9, zw_off (by omega), e6, zw_off (by omega), e4]
      unfold ext
      rcases (show i = lv ∨ i < lv by omega) with y | y
      · rw [if_pos y, y, zw_eq]
      · rw [if_neg (by omega), zw_ne (Or.inr (by omega)), e3, zw_off (by omega)]; exact (h.2 i y).1
    · rw [e9, zw_off (by omega), e6]
      unfold ext
      rcases (show i = lv ∨ i < lv by omega) with y | y
      · rw [if_pos y, y, zw_eq]
      · rw [if_neg (by omega), zw_ne (Or.inr (by omega)), e4, zw_off (by omega), e3, zw_off (by omega)]; exact (h.2 i y).2
  · rw [h.2.1 573 (by omega) (by omega) (by omega), e3, zw_eq]
  · rw [h.2.1 573 (by omega) (by omega) (by omega), e3, zw_ne (Or.inr hi)]
  · rw [h.2.2.1 i hi, e3, zw_off (by omega)]
  · rw [h.2.1 c c1 c2 c3, e3, zw_off c4]
theorem mLevel_ok (f : LF lv rt ct) (h : LM D lv rt ct) : CI g M_Mo_level [vR 708, vI a, vI b] D (fun y D' => (¬ vlev lv rt a b ∧ y = -1 ∧ D' = zw D 708 0 0) ∨ (vlev lv rt a b ∧ y = lv + 1 ∧ D' 708 0 = 0 ∧ D' 708 12 = 0 ∧ (∀ k : Int, k ≠ 0 → k ≠ 7 → k ≠ 12 → D' 708 k = D 708 k) ∧ (∀ c, c ≠ 708 → c ≠ 714 → c ≠ 715 → D' c = D c) ∧ LM D' (lv + 1) (ext rt lv a) (ext ct lv b))) := by
  have f1 := f.1
  refine CI.intro mc_Mo_level (Nat.le_of_ble_eq_true rfl) rfl (s_Mo_level_0 fun D1 e1 => in_ok.mono fun y D2 r2 => ?_)
  obtain ⟨rfl, rfl⟩ := r2
  have k1 : D2 708 7 = lv := by rw [e1, zw_ne (Or.inr (by omega))]; exact h.1
  refine s_Mo_level_13 ⟨fun q => retI (Or.inl ⟨fun v => ?_, rfl, e1⟩), fun q => in_ok.mono fun y D3 r3 => ?_⟩
  · rw [if_pos ⟨v.1, v.2.1⟩] at q; omega
  obtain ⟨rfl, rfl⟩ := r3
  refine s_Mo_level_23 ⟨fun q2 => retI (Or.inl ⟨fun v => ?_, rfl, e1⟩), fun q2 => ⟨fun q3 => retI (Or.inl ⟨fun v => by have := v.2.2.2.2.1; omega, rfl, e1⟩), fun q3 => ?_⟩⟩
  · rw [if_pos ⟨v.2.2.1, v.2.2.2.1⟩] at q2; omega
  have q' : 1 ≤ a ∧ a ≤ 10000 := Decidable.byContradiction fun z => q (if_neg z)
  have q2' : 0 ≤ b ∧ b ≤ 1000000 := Decidable.byContradiction fun z => q2 (if_neg z)
  have go : lz lv rt ((lv : Int) - 1) < a → Sg g M_Mo_level (rI (fun y D' => (¬ vlev lv rt a b ∧ y = -1 ∧ D' = zw D 708 0 0) ∨ (vlev lv rt a b ∧ y = lv + 1 ∧ D' 708 0 = 0 ∧ D' 708 12 = 0 ∧ (∀ k : Int, k ≠ 0 → k ≠ 7 → k ≠ 12 → D' 708 k = D 708 k) ∧ (∀ c, c ≠ 708 → c ≠ 714 → c ≠ 715 → D' c = D c) ∧ LM D' (lv + 1) (ext rt lv a) (ext ct lv b)))) 59 [vR 708, vI a, vI b] [] D3 := fun q6 => by
    have hv : vlev lv rt a b := ⟨q'.1, q'.2, q2'.1, q2'.2, by omega, q6⟩
    refine s_Mo_level_59 ?_
    rw [k1]
    refine ⟨by omega, fun D4 e4 => ?_⟩
    have t4 : D4 708 7 = lv := by rw [e4, zw_off (by omega)]; exact k1
    rw [t4]
    refine ⟨by omega, fun D6 e6 => ?_⟩
    have t6 : D6 708 7 = lv := by rw [e6, zw_off (by omega)]; exact t4
    rw [t6]
    refine ⟨by unfold R32; omega, fun D8 e8 D10 e10 => retI (Or.inr ⟨hv, ?_, ?_, ?_, fun k k1 k2 k3 => ?_, fun c c1 c2 c3 => ?_, ?_, fun i hi => ⟨?_, ?_⟩⟩)⟩
    · rw [e10, zw_ne (Or.inr (by omega)), e8, zw_eq]
    · rw [e10, zw_ne (Or.inr (by omega)), e8, zw_ne (Or.inr (by omega)), e6, zw_off (by omega), e4, zw_off (by omega), e1, zw_eq]
    · rw [e10, zw_eq]
    · rw [e10, zw_ne (Or.inr k3), e8, zw_ne (Or.inr k2), e6, zw_off (by omega), e4, zw_off (by omega), e1, zw_ne (Or.inr k1)]
    · rw [e10, zw_off c1, e8, zw_off c1, e6, zw_off c3, e4, zw_off c2, e1, zw_off c1]
    · rw [e10, zw_ne (Or.inr (by omega)), e8, zw_eq]; rfl
    · rw [e10, zw_off (by omega), e8, zw_off (by omega), e6, zw_off (by omega), e4]
      unfold ext
      rcases (show i = lv ∨ i < lv by omega) with y | y
      · rw [if_pos y, y, zw_eq]
      · rw [if_neg (by omega), zw_ne (Or.inr (by omega)), e1, zw_off (by omega)]; exact (h.2 i y).1
    · rw [e10, zw_off (by omega), e8, zw_off (by omega), e6]
      unfold ext
      rcases (show i = lv ∨ i < lv by omega) with y | y
      · rw [if_pos y, y, zw_eq]
      · rw [if_neg (by omega), zw_ne (Or.inr (by omega)), e4, zw_off (by omega), e1, zw_off (by omega)]; exact (h.2 i y).2
  rw [k1]
  refine ⟨fun q4 => go ?_, fun q4 => ⟨⟨by unfold R32; omega, by omega⟩, ?_⟩⟩
  · unfold lz; rw [if_neg (by omega)]; omega
  · have e : D3 714 ((lv : Int) - 1) = lz lv rt ((lv : Int) - 1) := by
      unfold lz
      rw [if_pos (by omega), e1, zw_off (by omega)]
      have := (h.2 ((lv : Int) - 1).toNat (by omega)).1
      rwa [Int.toNat_of_nonneg (by omega)] at this
    rw [e]
    exact ⟨fun q5 => go q5, fun q5 => retI (Or.inl ⟨fun v => q5 v.2.2.2.2.2, rfl, e1⟩)⟩
theorem cvx_bd (f : LF lv rt ct) (i : Int) : (R64 ((lz lv ct i - lz lv ct (i - 1)) * (lz lv rt (i - 1) - lz lv rt (i - 2)))) ∧ (R64 ((lz lv ct (i - 1) - lz lv ct (i - 2)) * (lz lv rt i - lz lv rt (i - 1)))) := by
  have m : ∀ x y : Int, -1000000 ≤ x → x ≤ 1000000 → -10000 ≤ y → y ≤ 10000 → R64 (x * y) := fun x y h1 h2 h3 h4 => by
    have a : (x * y).natAbs ≤ 1000000 * 10000 := by
      rw [Int.natAbs_mul]
      exact Nat.mul_le_mul (by omega) (by omega)
    unfold R64
    omega
  have c0 := f.cb i
  have c1 := f.cb (i - 1)
  have c2 := f.cb (i - 2)
  have r0 := f.rb i
  have r1 := f.rb (i - 1)
  have r2 := f.rb (i - 2)
  exact ⟨m _ _ (by omega) (by omega) (by omega) (by omega), m _ _ (by omega) (by omega) (by omega) (by omega)⟩
theorem areConvex_loop (f : LF lv rt ct) (h : LC D lv rt ct) : ∀ (m i : Nat) (z2 z3 z4 z5 z6 z7 z8 z9 : VV), 1 ≤ i → i + m = max lv 1 → (∀ k : Int, 1 ≤ k → k < i → cvx lv rt ct k) → Sg g M_Le_areConvex (rI (fun y D' => D' = D ∧ CX lv rt ct y)) 2 [vR 6, vI i, z2, z3, z4, z5, z6, z7, z8, z9] [] D := by
  have f1 := f.1
  have h1 := h.1
  intro m
  induction m with
  | zero =>
    intro i z2 z3 z4 z5 z6 z7 z8 z9 hi hm hI
    exact s_Le_areConvex_2 ⟨fun _ => retI ⟨rfl, Or.inl ⟨rfl, fun k k1 k2 => hI k k1 (by omega)⟩⟩, fun q => by omega⟩
  | succ m ih =>
    intro i z2 z3 z4 z5 z6 z7 z8 z9 hi hm hI
    have cb := cvx_bd f (i : Int)
    have c0 := f.cb (i : Int)
    have c1 := f.cb ((i : Int) - 1)
    have c2 := f.cb ((i : Int) - 2)
    have r0 := f.rb (i : Int)
    have r1 := f.rb ((i : Int) - 1)
    have r2 := f.rb ((i : Int) - 2)
    refine s_Le_areConvex_2 ⟨fun q => by omega, fun _ => (costOf_ok f h).mono fun y D2 q2 => ?_⟩
    obtain ⟨rfl, rfl⟩ := q2
    refine s_Le_areConvex_15 ⟨by unfold R32; omega, (costOf_ok f h).mono fun y D3 q3 => ?_⟩
    obtain ⟨rfl, rfl⟩ := q3
    refine s_Le_areConvex_23 ⟨by unfold R64; omega, (rateOf_ok f h).mono fun y D4 q4 => ?_⟩
    obtain ⟨rfl, rfl⟩ := q4
    refine s_Le_areConvex_31 ⟨by unfold R32; omega, (rateOf_ok f h).mono fun y D5 q5 => ?_⟩
    obtain ⟨rfl, rfl⟩ := q5
    refine s_Le_areConvex_39 ⟨⟨by unfold R64; omega, by unfold R32; omega⟩, (costOf_ok f h).mono fun y D6 q6 => ?_⟩
    obtain ⟨rfl, rfl⟩ := q6
    refine s_Le_areConvex_50 ⟨by unfold R32; omega, (costOf_ok f h).mono fun y D7 q7 => ?_⟩
    obtain ⟨rfl, rfl⟩ := q7
    refine s_Le_areConvex_58 ⟨⟨by unfold R64; omega, by unfold R32; omega⟩, (rateOf_ok f h).mono fun y D8 q8 => ?_⟩
    obtain ⟨rfl, rfl⟩ := q8
    refine s_Le_areConvex_69 ⟨by unfold R32; omega, (rateOf_ok f h).mono fun y D9 q9 => ?_⟩
    obtain ⟨rfl, rfl⟩ := q9
    refine s_Le_areConvex_77 ⟨⟨by unfold R64; omega, cb.1, cb.2⟩, fun q => ⟨by unfold R32; omega, ?_⟩, fun q => retI ⟨rfl, Or.inr ⟨rfl, i, by omega, by omega, q⟩⟩⟩
    refine ih (i + 1) _ _ _ _ _ _ _ _ (by omega) (by omega) (fun k k1 k2 => ?_)
    rcases (show k = i ∨ k < i by omega) with y | y
    · rw [y]; exact q
    · exact hI k k1 y
theorem keConvex_ok (f : LF lv rt ct) (h : LC D lv rt ct) : CI g M_Ke_convex [vR 0] D (fun y D' => D' = D ∧ CX lv rt ct y) := by
  refine CI.intro mc_Ke_convex (Nat.le_of_ble_eq_true rfl) rfl (s_Ke_convex_0 (CI.mono (CI.intro mc_Le_areConvex (Nat.le_of_ble_eq_true rfl) rfl (s_Le_areConvex_0 (areConvex_loop f h (max lv 1 - 1) 1 _ _ _ _ _ _ _ _ (by omega) (by omega) (fun k k1 k2 => by omega)))) fun y D' q => s_Ke_convex_7 ?_))
  obtain ⟨rfl, q⟩ := q
  refine ⟨fun z => retI ⟨rfl, by rw [z] at q; exact q⟩, fun z => retI ⟨rfl, ?_⟩⟩
  have : y = 1 := by
    rcases q with q | q
    · exact q.1
    · exact absurd q.1 z
  rw [this] at q; exact q
theorem mConvex_loop (f : LF lv rt ct) (h : LM D lv rt ct) : ∀ (m i : Nat) (x : Int) (z3 z4 z5 z6 z7 z8 : VV), 1 ≤ i → i + m = max lv 1 → ((x = 1 ∧ ∀ k : Int, 1 ≤ k → k < i → cvx lv rt ct k) ∨ (x = 0 ∧ Hid (∃ k : Int, 1 ≤ k ∧ k < i ∧ ¬ cvx lv rt ct k))) → Sg g M_Mo_convex (rI (fun y D' => D' = D ∧ CX lv rt ct y)) 9 [vR 708, vI x, vI i, z3, z4, z5, z6, z7, z8] [] D := by
  have f1 := f.1
  have h1 := h.1
  intro m
  induction m with
  | zero =>
    intro i x z3 z4 z5 z6 z7 z8 hi hm hI
    have cx : CX lv rt ct x := by
      rcases hI with ⟨a, b⟩ | ⟨a, k, b1, b2, b3⟩
      · exact Or.inl ⟨a, fun k k1 k2 => b k k1 (by omega)⟩
      · by_cases z : k < lv
        · exact Or.inr ⟨a, k, b1, z, b3⟩
        · omega
    refine s_Mo_convex_9 ⟨fun _ => ⟨fun z => retI ⟨rfl, by rw [z] at cx; exact cx⟩, fun z => retI ⟨rfl, ?_⟩⟩, fun q => by omega⟩
    have : x = 1 := by
      rcases cx with q | q
      · exact q.1
      · exact absurd q.1 z
    rw [this] at cx; exact cx
  | succ m ih =>
    intro i x z3 z4 z5 z6 z7 z8 hi hm hI
    have cb := cvx_bd f (i : Int)
    have c0 := f.cb (i : Int)
    have c1 := f.cb ((i : Int) - 1)
    have c2 := f.cb ((i : Int) - 2)
    have r0 := f.rb (i : Int)
    have r1 := f.rb ((i : Int) - 1)
    have r2 := f.rb ((i : Int) - 2)
    have cell : ∀ k : Int, 0 ≤ k → k < lv → D 714 k = lz lv rt k ∧ D 715 k = lz lv ct k := fun k k1 k2 => by
      unfold lz
      rw [if_pos ⟨k1, k2⟩, if_pos ⟨k1, k2⟩]
      have := h.2 k.toNat (by omega)
      rwa [Int.toNat_of_nonneg k1] at this
    have ei := cell i (by omega) (by omega)
    have ei1 := cell ((i : Int) - 1) (by omega) (by omega)
    have last : ∀ (z1 z3 z4 z5 z6 z7 z8 : VV) (x' : Int), ((x' = 1 ∧ ∀ k : Int, 1 ≤ k → k < (i + 1 : Nat) → cvx lv rt ct k) ∨ (x' = 0 ∧ Hid (∃ k : Int, 1 ≤ k ∧ k < (i + 1 : Nat) ∧ ¬ cvx lv rt ct k))) → Sg g M_Mo_convex (rI (fun y D' => D' = D ∧ CX lv rt ct y)) 132 [vR 708, z1, vI i, z3, z4, z5, z6, z7, z8] [vI x'] D := fun z1 z3 z4 z5 z6 z7 z8 x' q => s_Mo_convex_132 ⟨by unfold R32; omega, ih (i + 1) x' _ _ _ _ _ _ (by omega) (by omega) q⟩
    have p52 : Sg g M_Mo_convex (rI (fun y D' => D' = D ∧ CX lv rt ct y)) 52 [vR 708, vI x, vI i, vI (lz lv rt ((i : Int) - 2)), vU, vU, vU, vU, vU] [vI (lz lv ct ((i : Int) - 2))] D := by
      refine s_Mo_convex_52 ?_
      rw [ei.1, ei.2, ei1.1, ei1.2]
      refine ⟨⟨by omega, by unfold R32; omega, by omega, by unfold R32; omega, by unfold R32; omega, by omega, by unfold R32; omega, cb.1, by unfold R32; omega, by omega, by unfold R32; omega, by omega, by unfold R32; omega, by omega, by unfold R32; omega, cb.2⟩, fun q => s_Mo_convex_131 (last _ _ _ _ _ _ _ 0 (Or.inr ⟨rfl, ?_⟩)), fun q => ⟨fun q2 => s_Mo_convex_131 (last _ _ _ _ _ _ _ 0 (Or.inr ⟨rfl, i, by omega, by omega, fun z => by unfold cvx at z; omega⟩)), fun q2 => last _ _ _ _ _ _ _ 1 (Or.inl ⟨rfl, fun k k1 k2 => ?_⟩)⟩⟩
      · rcases hI with hI | ⟨_, k, k1, k2, k3⟩
        · omega
        · exact ⟨k, k1, by omega, k3⟩
      · rcases (show k = i ∨ k < i by omega) with y | y
        · rw [y]; exact Int.not_lt.mp q2
        · rcases hI with hI | hI
          · exact hI.2 k k1 y
          · omega
    have p34 : Sg g M_Mo_convex (rI (fun y D' => D' = D ∧ CX lv rt ct y)) 34 [vR 708, vI x, vI i, vU, vU, vU, vU, vU, vU] [vI (lz lv rt ((i : Int) - 2))] D := by
      refine s_Mo_convex_34 ⟨fun q => ?_, fun q => ⟨⟨by unfold R32; omega, by omega⟩, ?_⟩⟩
      · have e : lz lv ct ((i : Int) - 2) = 0 := by unfold lz; rw [if_neg (by omega)]
        rw [e] at p52; exact p52
      · rw [(cell ((i : Int) - 2) (by omega) (by omega)).2]; exact p52
    refine s_Mo_convex_9 ⟨fun q => by omega, fun _ => ⟨fun q => ?_, fun q => ⟨⟨by unfold R32; omega, by omega⟩, ?_⟩⟩⟩
    · have e : lz lv rt ((i : Int) - 2) = 0 := by unfold lz; rw [if_neg (by omega)]
      rw [e] at p34; exact p34
    · rw [(cell ((i : Int) - 2) (by omega) (by omega)).1]; exact p34
theorem mConvex_ok (f : LF lv rt ct) (h : LM D lv rt ct) : CI g M_Mo_convex [vR 708] D (fun y D' => D' = zw D 708 0 0 ∧ CX lv rt ct y) := by
  refine CI.intro mc_Mo_convex (Nat.le_of_ble_eq_true rfl) rfl (s_Mo_convex_0 fun D1 e1 => ?_)
  have h1 : LM D1 lv rt ct := ⟨by rw [e1, zw_ne (Or.inr (by omega))]; exact h.1, fun i hi => by rw [e1, zw_off (by omega), zw_off (by omega)]; exact h.2 i hi⟩
  refine zg_post (mConvex_loop f h1 (max lv 1 - 1) 1 1 _ _ _ _ _ _ (by omega) (by omega) (Or.inl ⟨rfl, fun k k1 k2 => by omega⟩)) ?_
  rintro _ _ _ ⟨q1, y, q2, q3, q4⟩
  exact ⟨q1, y, q2, by rw [q3, e1], q4⟩
end LEV
