/-! by the plan and by deadlines: groups keep to their times -/
noncomputable def edf (n : Nat) (pl : Nat → Nat) (r w : Nat → Int) (x : Nat → Rat) : Nat → Nat → Rat
  | 0 => fun j => (w j : Rat)
  | t + 1 => nx n pl (fun j => r j ≤ (t : Int)) (x t) (edf n pl r w x t)
noncomputable def cap (gs : Nat → Int) (k : Int) (t D : Nat) : Rat := sp (fun u => t ≤ u ∧ gs u = k) (fun _ => 1) D
def PInv (n : Nat) (r d w gs gj : Nat → Int) (G : Int) (W T : Int → Int) (t : Nat) (R : Nat → Rat) : Prop :=
  (∀ j, j < n → 0 ≤ R j) ∧ (∀ j, j < n → (t : Int) ≤ r j → R j = (w j : Rat)) ∧
  (∀ (k : Int) (D : Nat), 0 ≤ k → k < G → D ≤ 200 → sp (fun j => gj j = k ∧ d j ≤ D) R n ≤ sdk W T k * cap gs k t D) ∧
  ∀ k : Int, 0 ≤ k → k < G → sp (fun j => gj j = k) R n = sdk W T k * cap gs k t 200
section PLAN
variable {n : Nat} {r d w gs gj : Nat → Int} {G : Int} {W T : Int → Int} {pl : Nat → Nat} {R : Nat → Rat} {t : Nat}
theorem cap_in {k : Int} {D : Nat} (h : gs t = k) (hD : t < D) : cap gs k t D = 1 + cap gs k (t + 1) D := by
  unfold cap
  rw [sp_ins (P := fun u => t + 1 ≤ u ∧ gs u = k) (Q := fun u => t ≤ u ∧ gs u = k) (k := t) hD (fun q => by omega) (fun i hi => ⟨fun q => by omega, fun q => ?_⟩)]
  · exact Rat.add_comm _ _
  · rcases q with q | q
    · exact ⟨by omega, q.2⟩
    · exact ⟨by omega, by rw [q]; exact h⟩
theorem cap_out {k : Int} {D : Nat} (h : gs t ≠ k) : cap gs k t D = cap gs k (t + 1) D := by
  refine sp_congr (fun i hi => ⟨fun q => ⟨?_, q.2⟩, fun q => ⟨by omega, q.2⟩⟩) (fun _ _ _ => rfl)
  rcases (show i = t ∨ t < i by omega) with y | y
  · exact absurd (by rw [← y]; exact q.2) h
  · exact y
theorem cap_no {k : Int} {D : Nat} (h : D ≤ t) : cap gs k t D = 0 := sp_no (fun i hi q => by omega)
theorem nx_zero (hpl : Pl n d pl) (hR : ∀ j, j < n → 0 ≤ R j) {el : Nat → Prop} : ∀ j, j < n → nx n pl el 0 R j = R j := by
  intro j hj
  obtain ⟨p, hp, rfl⟩ := hpl.2.2 j hj
  rw [nx_at hpl hp]
  have h1 := cum_nn (el := el) hpl hR (show p ≤ n by omega)
  have h2 := cum_nn (el := el) hpl hR (show p + 1 ≤ n by omega)
  grind
/-- the group of a time is just as busy as can be -/
theorem PInv.full (c : Cert n r d w gs gj G W T) (hpl : Pl n d pl) (h : PInv n r d w gs gj G W T t R) (ht : t < 200) (h0 : 0 ≤ gs t) : sdk W T (gs t) ≤ cum (fun j => gj j = gs t ∧ r j ≤ (t : Int)) R pl n := by
  obtain ⟨i1, i2, i3, i4⟩ := h
  have hg := c.gs0 t ht
  have e := i4 (gs t) h0 hg.2
  rw [cap_in rfl ht] at e
  have gd := c.gdem (k := gs t) h0 hg.2 (a := t + 1) (b := 200) (by omega) (by omega)
  rw [cum_all hpl]
  have s1 : sp (fun j => gj j = gs t) R n = sp (fun j => gj j = gs t ∧ r j ≤ (t : Int)) R n + sp (fun j => gj j = gs t ∧ ((t + 1 : Nat) : Int) ≤ r j ∧ d j ≤ ((200 : Nat) : Int)) R n :=
    sp_split (fun j hj => ⟨fun q => by have := c.win j hj; omega, fun q => by rcases q with q | q <;> exact q.1⟩) (fun j hj q1 q2 => by omega)
  have s2 : sp (fun j => gj j = gs t ∧ ((t + 1 : Nat) : Int) ≤ r j ∧ d j ≤ ((200 : Nat) : Int)) R n = sp (fun j => gj j = gs t ∧ ((t + 1 : Nat) : Int) ≤ r j ∧ d j ≤ ((200 : Nat) : Int)) (fun j => (w j : Rat)) n := sp_congr (fun _ _ => Iff.rfl) (fun j hj q => i2 j hj (by omega))
  unfold cap at e
  grind
/-- another group's job that may be worked on waits behind the group's -/
theorem PInv.behind (c : Cert n r d w gs gj G W T) (h : PInv n r d w gs gj G W T t R) (ht : t < 200) (h0 : 0 ≤ gs t) {i j : Nat} (hi : i < n) (hj : j < n) (hgi : gj i = gs t) (hri : r i ≤ (t : Int)) (hgj : gj j ≠ gs t) (hrj : r j ≤ (t : Int)) (hRj : 0 < R j) : d i < d j := by
  obtain ⟨i1, i2, i3, i4⟩ := h
  have wj := c.win j hj
  have wi := c.win i hi
  have gj0 := c.gj0 j hj
  have none : ∀ D : Nat, d j ≤ (D : Int) → D ≤ 200 → cap gs (gj j) t D = 0 → False := by
    intro D hD hD2 hc
    have a := i3 (gj j) D gj0.1 gj0.2 hD2
    rw [hc, Rat.mul_zero] at a
    have b := sp_one (P := fun q => gj q = gj j ∧ d q ≤ D) (f := R) hj ⟨rfl, hD⟩ (fun q hq _ => i1 q hq)
    grind
  have hdj : (t : Int) < d j := by
    rcases Int.lt_or_le t (d j) with y | y
    · exact y
    · exact absurd (cap_no (Nat.le_refl t)) (none t y (by omega))
  have hle := c.ins j t hj ht hrj hdj
  rcases Int.lt_or_le (d i) (d j) with y | y
  · exact y
  · refine absurd ?_ (none (d j).toNat (by omega) (by omega))
    refine sp_no (fun u hu q => ?_)
    have := c.ins i u hi (by omega) (by omega) (by omega)
    omega
/-- so it makes no odds whether all that may be worked on is looked at, or the group alone -/
theorem PInv.same (c : Cert n r d w gs gj G W T) (hpl : Pl n d pl) (h : PInv n r d w gs gj G W T t R) (ht : t < 200) (h0 : 0 ≤ gs t) {p : Nat} (hp : p ≤ n) :
    min (cum (fun j => gj j = gs t ∧ r j ≤ (t : Int)) R pl p) (sdk W T (gs t)) = min (cum (fun j => r j ≤ (t : Int)) R pl p) (sdk W T (gs t)) := by
  have i1 := h.1
  have hs : cum (fun j => r j ≤ (t : Int)) R pl p = cum (fun j => gj j = gs t ∧ r j ≤ (t : Int)) R pl p + sp (fun q => gj (pl q) ≠ gs t ∧ r (pl q) ≤ (t : Int)) (fun q => R (pl q)) p :=
    sp_split (fun q hq => ⟨fun a => by omega, fun a => by rcases a with a | a <;> exact a.2⟩) (fun q hq a b => b.1 a.1)
  have nn := sp_nn (P := fun q => gj (pl q) ≠ gs t ∧ r (pl q) ≤ (t : Int)) (f := fun q => R (pl q)) (n := p) (fun q hq _ => i1 _ (hpl.1 q (by omega)))
  rcases Classical.em (∃ q, q < p ∧ gj (pl q) ≠ gs t ∧ r (pl q) ≤ (t : Int) ∧ 0 < R (pl q)) with ⟨q, q1, q2, q3, q4⟩ | z
  · have full := h.full c hpl ht h0
    have e : cum (fun j => gj j = gs t ∧ r j ≤ (t : Int)) R pl n = cum (fun j => gj j = gs t ∧ r j ≤ (t : Int)) R pl p := by
      unfold cum
      rw [sp_cut hp]
      have : sp (fun i => p ≤ i ∧ gj (pl i) = gs t ∧ r (pl i) ≤ (t : Int)) (fun q => R (pl q)) n = sp (fun i => p ≤ i ∧ gj (pl i) = gs t ∧ r (pl i) ≤ (t : Int)) (fun _ => 0) n := sp_congr (fun _ _ => Iff.rfl) (fun i hi a => by
        have hn := i1 _ (hpl.1 i hi)
        rcases Rat.le_iff_lt_or_eq.mp hn with y | y
        · have b := h.behind c ht h0 (hpl.1 i hi) (hpl.1 q (by omega)) a.2.1 a.2.2 q2 q3 q4
          have := hpl.2.1 q i (by omega) hi
          omega
        · exact y.symm)
      rw [this, sp_c, Rat.zero_mul, Rat.add_zero]
    rw [e] at full
    grind
  · have : sp (fun q => gj (pl q) ≠ gs t ∧ r (pl q) ≤ (t : Int)) (fun q => R (pl q)) p = sp (fun q => gj (pl q) ≠ gs t ∧ r (pl q) ≤ (t : Int)) (fun _ => 0) p := sp_congr (fun _ _ => Iff.rfl) (fun q hq a => by
      have hn := i1 _ (hpl.1 q (by omega))
      rcases Rat.le_iff_lt_or_eq.mp hn with y | y
      · exact absurd ⟨q, hq, a.1, a.2, y⟩ z
      · exact y.symm)
    rw [hs, this, sp_c, Rat.zero_mul, Rat.add_zero]
theorem PInv.same_nx (c : Cert n r d w gs gj G W T) (hpl : Pl n d pl) (h : PInv n r d w gs gj G W T t R) (ht : t < 200) (h0 : 0 ≤ gs t) : ∀ j, j < n → nx n pl (fun j => r j ≤ (t : Int)) (sdk W T (gs t)) R j = nx n pl (fun j => gj j = gs t ∧ r j ≤ (t : Int)) (sdk W T (gs t)) R j := by
  intro j hj
  obtain ⟨p, hp, rfl⟩ := hpl.2.2 j hj
  rw [nx_at hpl hp, nx_at hpl hp, h.same c hpl ht h0 (show p ≤ n by omega), h.same c hpl ht h0 (show p + 1 ≤ n by omega)]
theorem PInv.congr {R' : Nat → Rat} (h : PInv n r d w gs gj G W T t R) (e : ∀ j, j < n → R' j = R j) : PInv n r d w gs gj G W T t R' := by
  obtain ⟨i1, i2, i3, i4⟩ := h
  refine ⟨fun j hj => by rw [e j hj]; exact i1 j hj, fun j hj q => by rw [e j hj]; exact i2 j hj q, fun k D k0 k1 hD => ?_, fun k k0 k1 => ?_⟩
  · rw [sp_congr (P' := fun j => gj j = k ∧ d j ≤ D) (h := R) (fun _ _ => Iff.rfl) (fun j hj _ => e j hj)]
    exact i3 k D k0 k1 hD
  · rw [sp_congr (P' := fun j => gj j = k) (h := R) (fun _ _ => Iff.rfl) (fun j hj _ => e j hj)]
    exact i4 k k0 k1
theorem PInv.idle (h : PInv n r d w gs gj G W T t R) (h0 : gs t < 0) : PInv n r d w gs gj G W T (t + 1) R := by
  obtain ⟨i1, i2, i3, i4⟩ := h
  refine ⟨i1, fun j hj q => i2 j hj (by omega), fun k D k0 k1 hD => ?_, fun k k0 k1 => ?_⟩
  · rw [← cap_out (by omega)]; exact i3 k D k0 k1 hD
  · rw [← cap_out (by omega)]; exact i4 k k0 k1
theorem PInv.step (c : Cert n r d w gs gj G W T) (hpl : Pl n d pl) (h : PInv n r d w gs gj G W T t R) (ht : t < 200) (h0 : 0 ≤ gs t) : PInv n r d w gs gj G W T (t + 1) (nx n pl (fun j => gj j = gs t ∧ r j ≤ (t : Int)) (sdk W T (gs t)) R) := by
  have full := h.full c hpl ht h0
  obtain ⟨i1, i2, i3, i4⟩ := h
  have hg := c.gs0 t ht
  have s0 := c.sp0 h0 hg.2
  refine ⟨nx_nn hpl i1, fun j hj q => ?_, fun k D k0 k1 hD => ?_, fun k k0 k1 => ?_⟩
  · rw [nx_off hpl hj (by omega)]
    exact i2 j hj (by omega)
  · rcases Classical.em (gs t = k) with y | y
    · subst y
      rcases Nat.lt_or_ge t D with z | z
      · obtain ⟨m, hm, hpre⟩ := pl_pre hpl (D : Int)
        have np := nx_pre (R := R) (el := fun j => gj j = gs t ∧ r j ≤ (t : Int)) (s := sdk W T (gs t)) (P := fun j => gj j = gs t) hpl hm hpre (fun j hj q => q.1) (Rat.le_of_lt s0)
        rw [np]
        have a := i3 (gs t) D k0 k1 hD
        rw [cap_in rfl z] at a
        rcases Rat.le_total (a := sdk W T (gs t)) (b := cum (fun j => gj j = gs t ∧ r j ≤ (t : Int)) R pl m) with x | x
        · grind
        · have cp := cum_pre (el := fun j => gj j = gs t ∧ r j ≤ (t : Int)) (R := R) hpl hm hpre
          have gd := c.gdem (k := gs t) h0 hg.2 (a := t + 1) (b := D) (by omega) hD
          have s1 : sp (fun j => gj j = gs t ∧ d j ≤ (D : Int)) R n = sp (fun j => (gj j = gs t ∧ r j ≤ (t : Int)) ∧ d j ≤ (D : Int)) R n + sp (fun j => gj j = gs t ∧ ((t + 1 : Nat) : Int) ≤ r j ∧ d j ≤ (D : Int)) R n :=
            sp_split (fun j hj => by omega) (fun j hj q1 q2 => by omega)
          have s2 : sp (fun j => gj j = gs t ∧ ((t + 1 : Nat) : Int) ≤ r j ∧ d j ≤ (D : Int)) R n = sp (fun j => gj j = gs t ∧ ((t + 1 : Nat) : Int) ≤ r j ∧ d j ≤ (D : Int)) (fun j => (w j : Rat)) n := sp_congr (fun _ _ => Iff.rfl) (fun j hj q => i2 j hj (by omega))
          unfold cap
          grind
      · have a := i3 (gs t) D k0 k1 hD
        rw [cap_no z] at a
        rw [cap_no (by omega)]
        exact Rat.le_trans (sp_le (fun j hj q => ⟨q, nx_le hpl i1 j hj⟩) (fun j hj q1 q2 => absurd q2 q1)) a
    · rw [← cap_out y, sp_congr (P' := fun j => gj j = k ∧ d j ≤ D) (h := R) (fun _ _ => Iff.rfl) (fun j hj q => nx_off hpl hj (by omega))]
      exact i3 k D k0 k1 hD
  · rcases Classical.em (gs t = k) with y | y
    · subst y
      have np := nx_pre (R := R) (el := fun j => gj j = gs t ∧ r j ≤ (t : Int)) (s := sdk W T (gs t)) (P := fun j => gj j = gs t) (D := 200) hpl (Nat.le_refl n) (fun q hq => ⟨fun _ => (c.win _ (hpl.1 q hq)).2.2, fun _ => hq⟩) (fun j hj q => q.1) (Rat.le_of_lt s0)
      have a := i4 (gs t) k0 k1
      rw [cap_in rfl ht] at a
      have e : ∀ f : Nat → Rat, sp (fun j => gj j = gs t ∧ d j ≤ 200) f n = sp (fun j => gj j = gs t) f n := fun f => sp_congr (fun j hj => ⟨fun q => q.1, fun q => ⟨q, (c.win j hj).2.2⟩⟩) (fun _ _ _ => rfl)
      rw [e, e] at np
      rw [np]
      grind
    · rw [← cap_out y, sp_congr (P' := fun j => gj j = k) (h := R) (fun _ _ => Iff.rfl) (fun j hj q => nx_off hpl hj (by omega))]
      exact i4 k k0 k1
/-- at each time -/
theorem plan_inv (c : Cert n r d w gs gj G W T) (hpl : Pl n d pl) : ∀ t, t ≤ 200 → PInv n r d w gs gj G W T t (edf n pl r w (spd gs W T) t) := by
  intro t
  induction t with
  | zero =>
    intro _
    refine ⟨fun j hj => Rat.intCast_nonneg.mpr (by have := c.wp j hj; omega), fun _ _ _ => rfl, fun k D k0 k1 hD => ?_, fun k k0 k1 => ?_⟩
    · have gd := c.gdem (k := k) k0 k1 (a := 0) (b := D) (by omega) hD
      refine Rat.le_trans (sp_le (fun j hj q => ⟨⟨q.1, (c.win j hj).1, q.2⟩, Rat.le_refl⟩) (fun j hj _ _ => Rat.intCast_nonneg.mpr (by have := c.wp j hj; omega))) gd
    · have h1 := c.Wd k k0 k1
      have h2 := c.Td k k0 k1
      have h3 := c.sT k0 k1
      have e : cap gs k 0 200 = sp (fun t => gs t = k) (fun _ => 1) 200 := sp_congr (fun i hi => ⟨fun q => q.2, fun q => ⟨by omega, q⟩⟩) (fun _ _ _ => rfl)
      rw [e, ← h2, h3]
      exact h1.symm
  | succ t ih =>
    intro ht
    have i := ih (by omega)
    show PInv n r d w gs gj G W T (t + 1) (nx n pl (fun j => r j ≤ (t : Int)) (spd gs W T t) (edf n pl r w (spd gs W T) t))
    unfold spd
    split
    · next z => exact (i.idle z).congr (nx_zero hpl i.1)
    · next z => exact (i.step c hpl (by omega) (by omega)).congr (i.same_nx c hpl (by omega) (by omega))
end PLAN
