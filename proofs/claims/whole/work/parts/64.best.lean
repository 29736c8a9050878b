/-! the densest stretch is found between a release and a deadline of jobs that are left -/
theorem ex_min {n : Nat} {P : Nat → Prop} {f : Nat → Int} (h : ∃ j, j < n ∧ P j) : ∃ i, i < n ∧ P i ∧ ∀ j, j < n → P j → f i ≤ f j := by
  induction n with
  | zero => obtain ⟨j, hj, _⟩ := h; omega
  | succ n ih =>
    rcases Classical.em (∃ j, j < n ∧ P j) with z | z
    · obtain ⟨i, i1, i2, i3⟩ := ih z
      rcases Classical.em (P n ∧ f n < f i) with y | y
      · refine ⟨n, by omega, y.1, fun j hj q => ?_⟩
        rcases (show j = n ∨ j < n by omega) with x | x
        · rw [x]; exact Int.le_refl _
        · have := i3 j x q; omega
      · refine ⟨i, by omega, i2, fun j hj q => ?_⟩
        rcases (show j = n ∨ j < n by omega) with x | x
        · subst x
          rcases Int.lt_or_le (f j) (f i) with u | u
          · exact absurd ⟨q, u⟩ y
          · exact u
        · exact i3 j x q
    · obtain ⟨j, hj, q⟩ := h
      have : j = n := by
        rcases (show j = n ∨ j < n by omega) with x | x
        · exact x
        · exact absurd ⟨j, x, q⟩ z
      subst this
      refine ⟨j, by omega, q, fun i hi q2 => ?_⟩
      rcases (show i = j ∨ i < j by omega) with x | x
      · rw [x]; exact Int.le_refl _
      · exact absurd ⟨i, x, q2⟩ z
section BEST
variable {n : Nat} {r d w gs gj : Nat → Int} {G : Int} {W T : Int → Int}
/-- free time between two times -/
noncomputable def ftm (gs : Nat → Int) (a b : Nat) : Rat := sp (fun t => a ≤ t ∧ gs t < 0) (fun _ => 1) b
/-- the work of the jobs that are left, within two times -/
noncomputable def fwk (n : Nat) (r d w gj : Nat → Int) (a b : Int) : Rat := sp (fun j => gj j < 0 ∧ a ≤ r j ∧ d j ≤ b) (fun j => (w j : Rat)) n
theorem fwk_own (wp : ∀ j, j < n → 0 < w j) {i k : Nat} (hi : i < n) (gi : gj i < 0) (hd : d i ≤ d k) : 0 < fwk n r d w gj (r i) (d k) := by
  have a := sp_one (P := fun j => gj j < 0 ∧ r i ≤ r j ∧ d j ≤ d k) (f := fun j => (w j : Rat)) hi ⟨gi, Int.le_refl _, hd⟩ (fun j hj _ => Rat.intCast_nonneg.mpr (by have := wp j hj; omega))
  have b : (0 : Rat) < (w i : Rat) := Rat.intCast_pos.mpr (wp i hi)
  unfold fwk
  grind
theorem ftm_pos {a b t : Nat} (h1 : a ≤ t) (h2 : t < b) (h : gs t < 0) : 1 ≤ ftm gs a b :=
  sp_one (P := fun t => a ≤ t ∧ gs t < 0) (f := fun _ => (1 : Rat)) h2 ⟨h1, h⟩ (fun _ _ _ => by grind)
/-- a job that is left has a free time, so it is itself within a stretch to be tried -/
theorem best_some (h : PCert n r d w gs gj G W T) (win : ∀ j, j < n → 0 ≤ r j ∧ r j < d j ∧ d j ≤ 200) (wp : ∀ j, j < n → 0 < w j) {j : Nat} (hj : j < n) (gl : gj j < 0) : 1 ≤ ftm gs (r j).toNat (d j).toNat ∧ 0 < fwk n r d w gj (r j) (d j) := by
  obtain ⟨t, t1, t2, t3, t4⟩ := h.2.2.2.2.2.2.2.2.2.1 j hj gl
  have := win j hj
  exact ⟨ftm_pos (t := t) (by omega) (by omega) t4, fwk_own wp hj gl (Int.le_refl _)⟩
theorem best_max (h : PCert n r d w gs gj G W T) (win : ∀ j, j < n → 0 ≤ r j ∧ r j < d j ∧ d j ≤ 200) (wp : ∀ j, j < n → 0 < w j) {W1 T1 : Int} (hT0 : 0 < T1) (hW0 : 0 < W1)
    (hb : ∀ i k, i < n → k < n → gj i < 0 → gj k < 0 → r i < d k → 1 ≤ ftm gs (r i).toNat (d k).toNat → 0 < fwk n r d w gj (r i) (d k) → fwk n r d w gj (r i) (d k) * (T1 : Rat) ≤ (W1 : Rat) * ftm gs (r i).toNat (d k).toNat) :
    ∀ a b : Nat, a ≤ b → b ≤ 200 → sp (fun j => gj j < 0 ∧ fin gs G r d a b j) (fun j => (w j : Rat)) n * (T1 : Rat) ≤ (W1 : Rat) * sp (fun t => a ≤ t ∧ gs t < 0) (fun _ => 1) b := by
  intro a b hab hb200
  have Tq : (0 : Rat) ≤ (T1 : Rat) := Rat.intCast_nonneg.mpr (by omega)
  have Wq : (0 : Rat) ≤ (W1 : Rat) := Rat.intCast_nonneg.mpr (by omega)
  rcases Classical.em (∃ j, j < n ∧ gj j < 0 ∧ fin gs G r d a b j) with z | z
  · obtain ⟨i, i1, ⟨i2, i3⟩, i4⟩ := ex_min (f := r) z
    obtain ⟨k, k1, ⟨k2, k3⟩, k4⟩ := ex_min (f := fun j => - d j) z
    obtain ⟨t1, a1, a2, a3, a4⟩ := h.2.2.2.2.2.2.2.2.2.1 i i1 i2
    obtain ⟨t2, b1, b2, b3, b4⟩ := h.2.2.2.2.2.2.2.2.2.1 k k1 k2
    have wi := win i i1
    have wk := win k k1
    have di : d i ≤ d k := by have := k4 i i1 ⟨i2, i3⟩; omega
    have f1 := ftm_pos (a := (r i).toNat) (b := (d k).toNat) (t := t1) (by omega) (by omega) a4
    have key := hb i k i1 k1 i2 k2 (by omega) f1 (fwk_own wp i1 i2 di)
    have s1 : sp (fun j => gj j < 0 ∧ fin gs G r d a b j) (fun j => (w j : Rat)) n ≤ fwk n r d w gj (r i) (d k) :=
      sp_le (fun j hj q => ⟨⟨q.1, i4 j hj q, by have := k4 j hj q; omega⟩, Rat.le_refl⟩) (fun j hj _ _ => Rat.intCast_nonneg.mpr (by have := wp j hj; omega))
    have i5 := i3 t1 a1 a2 a3 (Or.inl a4)
    have k5 := k3 t2 b1 b2 b3 (Or.inl b4)
    have inn : ∀ t : Nat, (r i).toNat ≤ t → t < (d k).toNat → gs t < 0 → a ≤ t ∧ t < b := by
      intro t x1 x2 x3
      rcases Int.lt_or_le t (d i) with y | y
      · exact i3 t (by omega) (by omega) y (Or.inl x3)
      · rcases Int.lt_or_le t (r k) with y2 | y2
        · omega
        · exact k3 t (by omega) y2 (by omega) (Or.inl x3)
    have s2 : ftm gs (r i).toNat (d k).toNat ≤ sp (fun t => a ≤ t ∧ gs t < 0) (fun _ => 1) b := by
      unfold ftm
      have c1 := sp_cut (P := fun t => (r i).toNat ≤ t ∧ gs t < 0) (f := fun _ => (1 : Rat)) (m := (d k).toNat) (n := 200) (by omega)
      have c2 := sp_cut (P := fun t => a ≤ t ∧ gs t < 0) (f := fun _ => (1 : Rat)) hb200
      have c3 : sp (fun t => (r i).toNat ≤ t ∧ gs t < 0) (fun _ => (1 : Rat)) (d k).toNat = sp (fun t => ((r i).toNat ≤ t ∧ gs t < 0) ∧ t < (d k).toNat) (fun _ => 1) 200 := by
        rw [sp_cut (P := fun t => ((r i).toNat ≤ t ∧ gs t < 0) ∧ t < (d k).toNat) (m := (d k).toNat) (by omega), sp_no (P := fun t => (d k).toNat ≤ t ∧ ((r i).toNat ≤ t ∧ gs t < 0) ∧ t < (d k).toNat) (fun t ht q => by omega), Rat.add_zero]
        exact sp_congr (fun t ht => ⟨fun q => ⟨q, ht⟩, fun q => q.1⟩) (fun _ _ _ => rfl)
      have c4 : sp (fun t => a ≤ t ∧ gs t < 0) (fun _ => (1 : Rat)) b = sp (fun t => (a ≤ t ∧ gs t < 0) ∧ t < b) (fun _ => 1) 200 := by
        rw [sp_cut (P := fun t => (a ≤ t ∧ gs t < 0) ∧ t < b) (m := b) hb200, sp_no (P := fun t => b ≤ t ∧ (a ≤ t ∧ gs t < 0) ∧ t < b) (fun t ht q => by omega), Rat.add_zero]
        exact sp_congr (fun t ht => ⟨fun q => ⟨q, ht⟩, fun q => q.1⟩) (fun _ _ _ => rfl)
      rw [c3, c4]
      exact sp_le (fun t ht q => ⟨⟨⟨(inn t q.1.1 q.2 q.1.2).1, q.1.2⟩, (inn t q.1.1 q.2 q.1.2).2⟩, Rat.le_refl⟩) (fun t ht _ _ => by grind)
    exact Rat.le_trans (Rat.mul_le_mul_of_nonneg_right s1 Tq) (Rat.le_trans key (Rat.mul_le_mul_of_nonneg_left s2 Wq))
  · rw [sp_no (P := fun j => gj j < 0 ∧ fin gs G r d a b j) (fun j hj q => z ⟨j, hj, q⟩), Rat.zero_mul]
    exact Rat.mul_nonneg Wq (sp_nn (fun _ _ _ => by grind))
end BEST
