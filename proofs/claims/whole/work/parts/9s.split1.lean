/-! split: what is asked for -/
def UPL (lv : Nat) (rt : Nat → Int) (y : Rat) (u : Nat) : Prop := u < lv ∧ y ≤ (rt u : Rat) ∧ ∀ i, i < u → (rt i : Rat) < y
def lowr (rt : Nat → Int) (y : Rat) (u : Nat) : Int := if y = (rt u : Rat) then (u : Int) else u - 1
def slw (lv : Nat) (rt : Nat → Int) (w y : Rat) (u : Nat) : Rat := if y = (rt u : Rat) then w / y else w * ((rt u : Rat) - y) / (y * ((rt u : Rat) - (lz lv rt ((u : Int) - 1) : Rat)))
def fst2 (lv : Nat) (rt : Nat → Int) (w y : Rat) (u : Nat) : Rat := if y = (rt u : Rat) then 0 else w * (y - (lz lv rt ((u : Int) - 1) : Rat)) / (y * ((rt u : Rat) - (lz lv rt ((u : Int) - 1) : Rat)))
/-- what a time of 1 at a speed costs -/
def cper (lv : Nat) (rt ct : Nat → Int) (y : Rat) (u : Nat) : Rat := if y = (rt u : Rat) then (ct u : Rat) else ((lz lv ct ((u : Int) - 1) : Rat) * ((rt u : Rat) - y) + (ct u : Rat) * (y - (lz lv rt ((u : Int) - 1) : Rat))) / ((rt u : Rat) - (lz lv rt ((u : Int) - 1) : Rat))
section SPLIT1
variable {g : GG} {D D' D0 : DD} {n lv : Nat} {r d w rt ct : Nat → Int} {pl : Nat → Nat} {x : Nat → Rat} {y : Rat} {u u' : Nat}
theorem UPL.unique (h : UPL lv rt y u) (h' : UPL lv rt y u') : u = u' := by
  rcases Nat.lt_trichotomy u u' with q | q | q
  · exact absurd (h'.2.2 u q) (Rat.not_lt.mpr h.2.1)
  · exact q
  · exact absurd (h.2.2 u' q) (Rat.not_lt.mpr h'.2.1)
theorem UPL.lo (h : UPL lv rt y u) (hy : 0 < y) : (lz lv rt ((u : Int) - 1) : Rat) < y := by
  unfold lz
  by_cases q : 0 ≤ (u : Int) - 1 ∧ (u : Int) - 1 < lv
  · rw [if_pos q]
    exact h.2.2 _ (by omega)
  · rw [if_neg q]; exact hy
theorem UPL.hi (h : UPL lv rt y u) (ne : y ≠ (rt u : Rat)) : y < (rt u : Rat) := by
  have := h.2.1
  grind
theorem lz_at {f : Nat → Int} {k : Nat} (h : k < lv) : lz lv f (k : Int) = f k := by
  unfold lz
  rw [if_pos (by omega), Int.toNat_natCast]
theorem pay_eq {W2 : Rat} (h : UPL lv rt y u) (hy : 0 < y) : slw lv rt W2 y u * (lz lv ct (lowr rt y u) : Rat) + fst2 lv rt W2 y u * (ct u : Rat) = W2 / y * cper lv rt ct y u := by
  unfold slw fst2 cper lowr
  by_cases e : y = (rt u : Rat)
  · rw [if_pos e, if_pos e, if_pos e, if_pos e, lz_at h.1, Rat.zero_mul, Rat.add_zero]
  · rw [if_neg e, if_neg e, if_neg e, if_neg e]
    have l := h.lo hy
    have hh := h.hi e
    generalize (lz lv ct ((u : Int) - 1) : Rat) = cl
    generalize (lz lv rt ((u : Int) - 1) : Rat) = lo at *
    generalize (rt u : Rat) = hi at *
    generalize (ct u : Rat) = cu
    have n1 : y ≠ 0 := by grind
    have n2 : hi - lo ≠ 0 := by grind
    generalize e2 : hi - lo = ap at *
    rw [Rat.div_def, Rat.div_def, Rat.div_def, Rat.div_def]
    have i1 : (y * ap)⁻¹ = y⁻¹ * ap⁻¹ := by grind
    rw [i1]
    grind
theorem slw_frac {w p q hi lo : Rat} (hp : 0 < p) (hq : 0 < q) (ha : 0 < hi - lo) : w * (hi * q - p) / (p * (hi - lo)) = w * (hi - p / q) / (p / q * (hi - lo)) := by
  have n1 : q ≠ 0 := by grind
  have n2 : p ≠ 0 := by grind
  have n3 : hi - lo ≠ 0 := by grind
  generalize e2 : hi - lo = ap at *
  grind
theorem fst_frac {w p q hi lo : Rat} (hp : 0 < p) (hq : 0 < q) (ha : 0 < hi - lo) : w * (p - lo * q) / (p * (hi - lo)) = w * (p / q - lo) / (p / q * (hi - lo)) := by
  have n1 : q ≠ 0 := by grind
  have n2 : p ≠ 0 := by grind
  have n3 : hi - lo ≠ 0 := by grind
  generalize e2 : hi - lo = ap at *
  grind
/-- the jobs of a group together take the group's time -/
theorem by_groups {gs gj : Nat → Int} {G : Int} {W T : Int → Int} (c : Cert n r d w gs gj G W T) (f : Int → Rat) : ∀ m : Nat, (m : Int) ≤ G → su (fun k : Nat => (T k : Rat) * f k) m = sp (fun j => gj j < m) (fun j => (w j : Rat) / sdk W T (gj j) * f (gj j)) n := by
  intro m
  induction m with
  | zero => intro _; exact (sp_no fun j hj q => by have := (c.gj0 j hj).1; omega).symm
  | succ m ih =>
    intro hm
    have e := sp_split (P := fun j => gj j < ((m + 1 : Nat) : Int)) (P' := fun j => gj j < m) (R := fun j => gj j = m) (f := fun j => (w j : Rat) / sdk W T (gj j) * f (gj j)) (n := n) (fun j hj => by omega) (fun j hj q1 q2 => by omega)
    have e2 : sp (fun j => gj j = m) (fun j => (w j : Rat) / sdk W T (gj j) * f (gj j)) n = (T m : Rat) * f m := by
      have s := sp_mul (P := fun j => gj j = m) (f := fun j => (w j : Rat)) (c := (sdk W T m)⁻¹ * f m) (n := n)
      rw [← c.Wd m (by omega) (by omega)] at s
      have s2 : sp (fun j => gj j = m) (fun j => (w j : Rat) / sdk W T (gj j) * f (gj j)) n = sp (fun j => gj j = m) (fun j => (w j : Rat) * ((sdk W T m)⁻¹ * f m)) n := sp_congr (fun _ _ => Iff.rfl) fun j hj q => by rw [q, Rat.div_def, Rat.mul_assoc]
      rw [s2, s]
      have sT := c.sT (k := m) (by omega) (by omega)
      have s0 := c.sp0 (k := m) (by omega) (by omega)
      have ne : sdk W T m ≠ 0 := by grind
      rw [← sT]
      generalize sdk W T m = y at *
      grind
    rw [e, ← ih (by omega), e2]
    rfl
/-- the least level for a speed -/
theorem leastFor_ok (f : LF lv rt ct) (h : LC D lv rt ct) {a b : Int} (ha : 0 ≤ a ∧ a ≤ 12000) (hb : 0 < b ∧ b ≤ 200) : CI g M_Le_leastFor [vR 6, vI a, vI b] D (fun v D' => D' = D ∧ ((∃ u, v = (u : Nat) ∧ UPL lv rt ((a : Rat) / (b : Rat)) u) ∨ (v = -1 ∧ ∀ i, i < lv → (rt i : Rat) < (a : Rat) / (b : Rat)))) := by
  have hl := f.1
  have b0 : (0 : Rat) < (b : Rat) := Rat.intCast_pos.mpr hb.1
  refine CI.intro mc_Le_leastFor (Nat.le_of_ble_eq_true rfl) rfl (s_Le_leastFor_0 ?_)
  have loop : ∀ (m i : Nat), i + m = lv → (∀ j, j < i → (rt j : Rat) < (a : Rat) / (b : Rat)) → Sg g M_Le_leastFor (rI (fun v D' => D' = D ∧ ((∃ u, v = (u : Nat) ∧ UPL lv rt ((a : Rat) / (b : Rat)) u) ∨ (v = -1 ∧ ∀ i, i < lv → (rt i : Rat) < (a : Rat) / (b : Rat))))) 2 [vR 6, vI a, vI b, vI i] [] D := by
    intro m
    induction m with
    | zero =>
      intro i hi hI
      have := h.1
      exact s_Le_leastFor_2 ⟨fun _ => retI ⟨rfl, Or.inr ⟨rfl, fun j hj => hI j (by omega)⟩⟩, fun q => by omega⟩
    | succ m ih =>
      intro i hi hI
      have := h.1
      refine s_Le_leastFor_2 ⟨fun q => by omega, fun _ => (rateOf_ok f h).mono fun v D2 r2 => ?_⟩
      obtain ⟨rfl, rfl⟩ := r2
      rw [lz_at (by omega)]
      have rb := (f.2.1 i (by omega)).1
      have m1 : 0 ≤ rt i * b := Int.mul_nonneg (by omega) (by omega)
      have m2 : rt i * b ≤ 10000 * 200 := Int.mul_le_mul rb.2 hb.2 (by omega) (by decide)
      refine s_Le_leastFor_15 ⟨by unfold R32; omega, fun q => ⟨by unfold R32; omega, ih (i + 1) (by omega) fun j hj => ?_⟩, fun q => retI ⟨rfl, Or.inl ⟨i, rfl, by omega, ?_, hI⟩⟩⟩
      · rcases (show j = i ∨ j < i by omega) with z | z
        · rw [z, Rat.lt_div_iff b0, ← Rat.intCast_mul]
          exact Rat.intCast_lt_intCast.mpr q
        · exact hI j z
      · refine Rat.not_lt.mp fun z => ?_
        rw [Rat.lt_div_iff b0, ← Rat.intCast_mul] at z
        have := Rat.intCast_lt_intCast.mp z
        omega
  exact loop lv 0 (by omega) fun j hj => by omega
end SPLIT1
