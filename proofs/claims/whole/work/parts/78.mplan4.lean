/-! the model: rows' frames, nextJob, a time's work -/
def RF (lo hi lo2 hi2 : Int) (D D' : DD) : Prop := ∀ m, (m < lo ∨ hi ≤ m) → (m < lo2 ∨ hi2 ≤ m) → D' 710 m = D 710 m ∧ ∀ j, 0 ≤ j → j < 100 → mr D' m j = mr D m j
section MPLAN4
variable {g : GG} {D D' D'' D0 : DD} {n : Nat} {r d w : Nat → Int} {pl : Nat → Nat} {lo hi lo2 hi2 lo' hi' lo2' hi2' : Int}
theorem RF.rf : RF lo hi lo2 hi2 D D := fun _ _ _ => ⟨rfl, fun _ _ _ => rfl⟩
theorem RF.tr (h : RF lo hi lo2 hi2 D D') (h' : RF lo hi lo2 hi2 D' D'') : RF lo hi lo2 hi2 D D'' := fun m h1 h2 => ⟨(h' m h1 h2).1.trans (h m h1 h2).1, fun j j1 j2 => ((h' m h1 h2).2 j j1 j2).trans ((h m h1 h2).2 j j1 j2)⟩
theorem RF.mono (h : RF lo hi lo2 hi2 D D') (q : ∀ m, (m < lo' ∨ hi' ≤ m) → (m < lo2' ∨ hi2' ≤ m) → (m < lo ∨ hi ≤ m) ∧ (m < lo2 ∨ hi2 ≤ m)) : RF lo' hi' lo2' hi2' D D' := fun m h1 h2 => h m (q m h1 h2).1 (q m h1 h2).2
theorem FM.rows (h : FM lo hi lo2 hi2 D D') : RF lo hi lo2 hi2 D D' := h.2
theorem RF.off (h1 : D' 709 = D 709) (h2 : D' 710 = D 710) : RF lo hi lo2 hi2 D D' := fun m _ _ => ⟨by rw [h2], fun j _ _ => by unfold mr; rw [h1]⟩
theorem Mn.rw {m v : Int} (h : Mn D m v) (f : RF lo hi lo2 hi2 D D') (q : (m < lo ∨ hi ≤ m) ∧ (m < lo2 ∨ hi2 ≤ m)) : Mn D' m v := h.of (f m q.1 q.2).1 (f m q.1 q.2).2
theorem Mq.rw {f : Int} {x : Rat} (h : Mq D f x) (t : RF lo hi lo2 hi2 D D') (s : (2 * f + 1 < lo ∨ hi ≤ 2 * f) ∧ (2 * f + 1 < lo2 ∨ hi2 ≤ 2 * f)) : Mq D' f x := ⟨h.1.rw t (by omega), h.2.rw t (by omega)⟩
/-- the next job: the first place that may be worked on -/
def NJ (D : DD) (n : Nat) (r : Nat → Int) (pl : Nat → Nat) (t : Int) (y : Int) : Prop :=
  (y = -1 ∧ ∀ j : Nat, j < n → r j ≤ t → D 722 j ≤ 0) ∨ ∃ p : Nat, p < n ∧ y = pl p ∧ r (pl p) ≤ t ∧ 0 < D 722 (pl p) ∧ ∀ q : Nat, q < p → r (pl q) ≤ t → D 722 (pl q) ≤ 0
theorem nextJob_loop (f : JF n r d w pl) (h : JM D n r d w) {t : Int} : ∀ (j : Nat) (b : Int), j ≤ n → ((b = -1 ∧ ∀ i : Nat, j ≤ i → i < n → r i ≤ t → D 722 i ≤ 0) ∨ ∃ k : Nat, j ≤ k ∧ k < n ∧ b = k ∧ r k ≤ t ∧ 0 < D 722 k ∧ ∀ i : Nat, j ≤ i → i < n → r i ≤ t → 0 < D 722 i → d k < d i ∨ (d k = d i ∧ k ≤ i)) →
    Sg g M_Mo_nextJob (rI (fun y D' => D' = D ∧ NJ D n r pl t y)) 9 [vR 708, vI t, vI b, vI ((j : Int) - 1)] [] D := by
  have hn := f.1
  have hpl := f.2.2.2
  intro j
  induction j with
  | zero =>
    intro b _ hb
    refine s_Mo_nextJob_9 ⟨fun _ => retI ⟨rfl, ?_⟩, fun q => by omega⟩
    rcases hb with ⟨b1, b2⟩ | ⟨k, k1, k2, k3, k4, k5, k6⟩
    · exact Or.inl ⟨b1, fun i hi => b2 i (by omega) hi⟩
    · obtain ⟨p, hp, e⟩ := hpl.2.2 k k2
      refine Or.inr ⟨p, hp, by rw [e]; exact k3, by rw [e]; exact k4, by rw [e]; exact k5, fun q hq rq => ?_⟩
      rcases Int.lt_or_le 0 (D 722 (pl q)) with y | y
      · have a := k6 (pl q) (by omega) (hpl.1 q (by omega)) rq y
        have c := hpl.2.1 q p hq hp
        rw [e] at c
        omega
      · exact y
  | succ j ih =>
    intro b hj hb
    have hjn : j < n := by omega
    obtain ⟨h1, h2, h3⟩ := h.2 j hjn
    have e : ((j + 1 : Nat) : Int) - 1 = j := by omega
    rw [e]
    have keep : (r j ≤ t → 0 < D 722 j → ∃ k : Nat, j + 1 ≤ k ∧ k < n ∧ b = k ∧ d k < d j) → Sg g M_Mo_nextJob (rI (fun y D' => D' = D ∧ NJ D n r pl t y)) 55 [vR 708, vI t, vI b, vI j] [] D := fun q => by
      refine s_Mo_nextJob_55 ⟨by unfold R32; omega, ?_⟩
      rw [show (j : Int) + (-1) = (j : Int) - 1 by omega]
      refine ih b (by omega) ?_
      rcases hb with ⟨b1, b2⟩ | ⟨k, k1, k2, k3, k4, k5, k6⟩
      · refine Or.inl ⟨b1, fun i i1 i2 i3 => ?_⟩
        rcases (show i = j ∨ j + 1 ≤ i by omega) with y | y
        · rw [y] at i3 ⊢
          rcases Int.lt_or_le 0 (D 722 j) with z | z
          · obtain ⟨k, k1, k2, k3, k4⟩ := q i3 z
            omega
          · exact z
        · exact b2 i y i2 i3
      · refine Or.inr ⟨k, by omega, k2, k3, k4, k5, fun i i1 i2 i3 i4 => ?_⟩
        rcases (show i = j ∨ j + 1 ≤ i by omega) with y | y
        · rw [y] at i3 i4 ⊢
          obtain ⟨k', x1, x2, x3, x4⟩ := q i3 i4
          obtain rfl : k' = k := by omega
          exact Or.inl x4
        · exact k6 i y i2 i3 i4
    have take : r j ≤ t → 0 < D 722 j → (b < 0 ∨ ∃ k : Nat, k < n ∧ b = k ∧ d j ≤ d k) → Sg g M_Mo_nextJob (rI (fun y D' => D' = D ∧ NJ D n r pl t y)) 53 [vR 708, vI t, vI b, vI j] [] D := fun q1 q2 q3 => by
      refine s_Mo_nextJob_53 (s_Mo_nextJob_55 ⟨by unfold R32; omega, ?_⟩)
      rw [show (j : Int) + (-1) = (j : Int) - 1 by omega]
      refine ih j (by omega) (Or.inr ⟨j, Nat.le_refl j, hjn, rfl, q1, q2, fun i i1 i2 i3 i4 => ?_⟩)
      rcases (show i = j ∨ j + 1 ≤ i by omega) with y | y
      · rw [y]; omega
      · rcases hb with ⟨b1, b2⟩ | ⟨k, k1, k2, k3, k4, k5, k6⟩
        · have := b2 i y i2 i3
          omega
        · have a := k6 i y i2 i3 i4
          rcases q3 with q3 | ⟨k', x1, x2, x3⟩
          · omega
          · obtain rfl : k' = k := by omega
            omega
    refine s_Mo_nextJob_9 ⟨fun q => by omega, fun _ => ⟨by omega, ?_⟩⟩
    rw [h1]
    refine ⟨fun q => keep fun z => by omega, fun q => ⟨by omega, fun q2 => keep fun _ z => by omega, fun q2 => ⟨fun q3 => take (by omega) (by omega) (Or.inl q3), fun q3 => ?_⟩⟩⟩
    rcases hb with ⟨b1, b2⟩ | ⟨k, k1, k2, k3, k4, k5, k6⟩
    · omega
    · rw [k3, h2, (h.2 k k2).2.1]
      rw [k3] at keep take
      exact ⟨by omega, fun q4 => keep fun _ _ => ⟨k, k1, k2, rfl, q4⟩, fun q4 => take (by omega) (by omega) (Or.inr ⟨k, k2, rfl, by omega⟩)⟩
theorem nextJob_ok (f : JF n r d w pl) (h : JM D n r d w) {t : Int} : CI g M_Mo_nextJob [vR 708, vI t] D (fun y D' => D' = D ∧ NJ D n r pl t y) := by
  have hn := f.1
  have h3 := h.1
  refine CI.intro mc_Mo_nextJob (Nat.le_of_ble_eq_true rfl) rfl (s_Mo_nextJob_0 ⟨by unfold R32; omega, ?_⟩)
  rw [h3]
  exact nextJob_loop f h n (-1) (Nat.le_refl n) (Or.inl ⟨rfl, fun i i1 i2 => by omega⟩)
/-- a time's work, up to a place -/
def WM (n : Nat) (pl : Nat → Nat) (el : Nat → Prop) (S : Rat) (R den : Nat → Rat) (B : Rat) (t : Nat) (D0 D : DD) (p : Nat) (used : Int) : Prop :=
  (∀ c, c ≠ 709 → c ≠ 710 → c ≠ 722 → D c = D0 c) ∧ RF 96 120 248 253 D0 D ∧
  (used : Rat) = min (cum el R pl p) S * B ∧
  (∀ q, q < n → (D 722 (pl q) : Rat) = (if q < p then nx n pl el S R (pl q) else R (pl q)) * den (pl q)) ∧
  (∀ q, q < n → q < p → 0 < R (pl q) → nx n pl el S R (pl q) = 0 → Mq D (48 + pl q) ((t : Rat) + min (cum el R pl (q + 1)) S / S)) ∧
  (∀ q, q < n → (p ≤ q ∨ ¬ (0 < R (pl q) ∧ nx n pl el S R (pl q) = 0)) → ∀ m, 2 * (48 + (pl q : Int)) ≤ m → m < 2 * (48 + (pl q : Int)) + 2 → D 710 m = D0 710 m ∧ ∀ j, 0 ≤ j → j < 100 → mr D m j = mr D0 m j)
theorem WM.jump {el : Nat → Prop} {S B : Rat} {R den : Nat → Rat} {t p p' : Nat} {used : Int} (hpl : Pl n d pl) (h : WM n pl el S R den B t D0 D p used) (h1 : p ≤ p') (h2 : p' ≤ n) (hc : ∀ q, p ≤ q → q ≤ p' → min (cum el R pl q) S = min (cum el R pl p) S) : WM n pl el S R den B t D0 D p' used := by
  obtain ⟨a1, a2, a3, a4, a5, a6⟩ := h
  have e : ∀ q, p ≤ q → q < p' → nx n pl el S R (pl q) = R (pl q) := fun q q1 q2 => by
    rw [nx_at hpl (by omega), hc q q1 (by omega), hc (q + 1) (by omega) (by omega)]
    grind
  refine ⟨a1, a2, by rw [hc p' h1 (Nat.le_refl _)]; exact a3, fun q hq => ?_, fun q hq q1 r0 z => ?_, fun q hq z => a6 q hq ?_⟩
  · rw [a4 q hq]
    rcases (show q < p ∨ (p ≤ q ∧ q < p') ∨ p' ≤ q by omega) with y | y | y
    · rw [if_pos y, if_pos (by omega)]
    · rw [if_neg (by omega), if_pos y.2, e q y.1 y.2]
    · rw [if_neg (by omega), if_neg (by omega)]
  · rcases Nat.lt_or_ge q p with y | y
    · exact a5 q hq y r0 z
    · rw [e q y q1] at z
      rw [z] at r0
      exact absurd r0 Rat.lt_irrefl
  · rcases Nat.lt_or_ge q p with y | y
    · rcases z with z | z
      · omega
      · exact Or.inr z
    · exact Or.inl y
end MPLAN4
