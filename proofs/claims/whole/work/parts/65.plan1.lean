/-! the Planner: tryBetween, findDensest -/
/-- free times before t -/
def cf (gs : Nat → Int) (t : Nat) : Int := si (fun u => if gs u = -1 then 1 else 0) t
def wki (n : Nat) (r d w gj : Nat → Int) (a b : Int) : Int := si (fun j => if gj j = -1 ∧ a ≤ r j ∧ d j ≤ b then w j else 0) n
theorem cf_bd {gs : Nat → Int} {t : Nat} : 0 ≤ cf gs t ∧ cf gs t ≤ t := by
  have a := si_nn (f := fun u => if gs u = -1 then (1 : Int) else 0) (n := t) (fun i _ => by show (0 : Int) ≤ if gs i = -1 then 1 else 0; split <;> omega)
  have b := si_le (f := fun u => if gs u = -1 then (1 : Int) else 0) (B := 1) (n := t) (fun i _ => by show (if gs i = -1 then (1 : Int) else 0) ≤ 1; split <;> omega)
  unfold cf
  omega
theorem si_sp {f : Nat → Int} {P : Nat → Prop} [inst : ∀ i, Decidable (P i)] {n : Nat} : ((si (fun i => if P i then f i else 0) n : Int) : Rat) = sp P (fun i => (f i : Rat)) n := by
  induction n with
  | zero => rfl
  | succ n ih =>
    show ((si (fun i => if P i then f i else 0) n + (if P n then f n else 0) : Int) : Rat) = _
    rw [Rat.intCast_add, ih]
    rcases Classical.em (P n) with z | z
    · rw [sp_t z, if_pos z]
    · rw [sp_f z, if_neg z, Rat.intCast_zero, Rat.add_zero]
theorem cf_ftm {gs : Nat → Int} {a b : Nat} (hab : a ≤ b) (hg : ∀ t, t < b → -1 ≤ gs t) : ((cf gs b - cf gs a : Int) : Rat) = ftm gs a b := by
  unfold cf ftm
  rw [Rat.intCast_sub, si_sp (f := fun _ => 1), si_sp (f := fun _ => 1), sp_cut hab]
  have e : sp (fun i => a ≤ i ∧ gs i = -1) (fun _ => (((1 : Int)) : Rat)) b = sp (fun t => a ≤ t ∧ gs t < 0) (fun _ => 1) b := sp_congr (fun t ht => by have := hg t ht; omega) (fun _ _ _ => rfl)
  rw [e]
  grind
theorem wki_fwk {n : Nat} {r d w gj : Nat → Int} {a b : Int} (hg : ∀ j, j < n → -1 ≤ gj j) : (wki n r d w gj a b : Rat) = fwk n r d w gj a b := by
  unfold wki fwk
  rw [si_sp]
  exact sp_congr (fun j hj => by have := hg j hj; omega) (fun _ _ _ => rfl)
section PLAN1
variable {g : GG} {D : DD} {n : Nat} {r d w : Nat → Int} {pl : Nat → Nat}
def gsD (D : DD) : Nat → Int := fun t => D 462 t
def gjD (D : DD) : Nat → Int := fun j => D 461 j
theorem wki_bd (f : JF n r d w pl) {gj : Nat → Int} {a b : Int} {m : Nat} (hm : m ≤ n) : 0 ≤ wki m r d w gj a b ∧ wki m r d w gj a b ≤ m * 1000 := by
  have x := si_nn (f := fun j => if gj j = -1 ∧ a ≤ r j ∧ d j ≤ b then w j else 0) (n := m) (fun i hi => by
    have := f.2.2.1 i (by omega)
    show 0 ≤ if gj i = -1 ∧ a ≤ r i ∧ d i ≤ b then w i else 0
    split <;> omega)
  have y := si_le (f := fun j => if gj j = -1 ∧ a ≤ r j ∧ d j ≤ b then w j else 0) (n := m) (B := 1000) (fun i hi => by
    have := f.2.2.1 i (by omega)
    show (if gj i = -1 ∧ a ≤ r i ∧ d i ≤ b then w i else 0) ≤ 1000
    split <;> omega)
  exact ⟨x, y⟩
/-- better than the best so far -/
def btr (wk tm BW BT : Int) : Prop := 1 ≤ tm ∧ 0 < wk ∧ (BT = 0 ∨ BW * tm < wk * BT)
def Try (D D' : DD) (u v wk tm : Int) : Prop := FR 457 458 457 458 D D' ∧ (∀ j, (j < 9 ∨ 12 < j) → D' 457 j = D 457 j) ∧ ((btr wk tm (D 457 11) (D 457 12) ∧ D' 457 9 = u ∧ D' 457 10 = v ∧ D' 457 11 = wk ∧ D' 457 12 = tm) ∨ (¬ btr wk tm (D 457 11) (D 457 12) ∧ ∀ j, D' 457 j = D 457 j))
theorem try_loop (f : JF n r d w pl) (h : JC D n r d w pl) {u v tm : Int} (htm : 1 ≤ tm ∧ tm ≤ 200) (hBW : 0 ≤ D 457 11 ∧ D 457 11 ≤ 12000) (hBT : 0 ≤ D 457 12 ∧ D 457 12 ≤ 200) : ∀ (m i : Nat), i + m = n →
    Sg g M_Pl_tryBetween (rV (fun D' => Try D D' u v (wki n r d w (gjD D) u v) tm)) 45 [vR 457, vR 1, vI u, vI v, vI tm, vI (wki i r d w (gjD D) u v), vI i] [] D := by
  have hf := f.1
  have h1 := h.1
  intro m
  induction m with
  | zero =>
    intro i hi
    obtain rfl : i = n := by omega
    have wb := wki_bd f (gj := gjD D) (a := u) (b := v) (Nat.le_refl i)
    have new : btr (wki i r d w (gjD D) u v) tm (D 457 11) (D 457 12) → Sg g M_Pl_tryBetween (rV (fun D' => Try D D' u v (wki i r d w (gjD D) u v) tm)) 123 [vR 457, vR 1, vI u, vI v, vI tm, vI (wki i r d w (gjD D) u v), vI i] [] D := by
      intro hb
      refine s_Pl_tryBetween_123 fun D1 e1 D3 e3 D5 e5 D7 e7 => retV ⟨?_, fun j hj => ?_, Or.inl ⟨hb, ?_, ?_, ?_, ?_⟩⟩
      · rw [e7, e5, e3, e1]
        exact (FR.w (by omega)).tr ((FR.w (by omega)).tr ((FR.w (by omega)).tr (FR.w (by omega))))
      · rw [e7, zw_ne (Or.inr (by omega)), e5, zw_ne (Or.inr (by omega)), e3, zw_ne (Or.inr (by omega)), e1, zw_ne (Or.inr (by omega))]
      · rw [e7, zw_ne (Or.inr (by omega)), e5, zw_ne (Or.inr (by omega)), e3, zw_ne (Or.inr (by omega)), e1, zw_eq]
      · rw [e7, zw_ne (Or.inr (by omega)), e5, zw_ne (Or.inr (by omega)), e3, zw_eq]
      · rw [e7, zw_ne (Or.inr (by omega)), e5, zw_eq]
      · rw [e7, zw_eq]
    have old : ¬ btr (wki i r d w (gjD D) u v) tm (D 457 11) (D 457 12) → Try D D u v (wki i r d w (gjD D) u v) tm := fun hb => ⟨FR.rf, fun _ _ => rfl, Or.inr ⟨hb, fun _ => rfl⟩⟩
    refine s_Pl_tryBetween_45 ⟨fun _ => ⟨fun q => retV (old fun z => by have := z.2.1; omega), fun q => ⟨fun q2 => new ⟨htm.1, by omega, Or.inl q2⟩, fun q2 => ⟨⟨?_, ?_⟩, fun q3 => retV (old fun z => by rcases z.2.2 with y | y <;> omega), fun q3 => new ⟨htm.1, by omega, Or.inr (by omega)⟩⟩⟩⟩, fun q => by omega⟩
    · have a : wki i r d w (gjD D) u v * D 457 12 ≤ 12000 * 200 := Int.mul_le_mul (by omega) hBT.2 hBT.1 (by omega)
      have b := Int.mul_nonneg wb.1 hBT.1
      unfold R32; omega
    · have a : D 457 11 * tm ≤ 12000 * 200 := Int.mul_le_mul hBW.2 htm.2 (by omega) (by omega)
      have b := Int.mul_nonneg hBW.1 (show 0 ≤ tm by omega)
      unfold R32; omega
  | succ m ih =>
    intro i hi
    have k := ih (i + 1) (by omega)
    have hj := h.2.1 i (by omega)
    have wb := wki_bd f (gj := gjD D) (a := u) (b := v) (m := i) (by omega)
    have wj := f.2.2.1 i (by omega)
    have e : wki (i + 1) r d w (gjD D) u v = wki i r d w (gjD D) u v + if gjD D i = -1 ∧ u ≤ r i ∧ d i ≤ v then w i else 0 := rfl
    have eg : gjD D i = D 461 i := rfl
    refine s_Pl_tryBetween_45 ⟨fun q => by omega, fun _ => ⟨by omega, fun q => s_Pl_tryBetween_88 ⟨by unfold R32; omega, ?_⟩, fun q => (within_ok f h (by omega)).mono fun y D2 q2 => ?_⟩⟩
    · rw [e, if_neg (fun z => q (by rw [← eg]; exact z.1)), Int.add_zero] at k
      exact k
    · obtain ⟨rfl, hy⟩ := q2
      refine s_Pl_tryBetween_73 ⟨fun q2 => s_Pl_tryBetween_88 ⟨by unfold R32; omega, ?_⟩, fun q2 => ⟨⟨by omega, by unfold R32; omega⟩, s_Pl_tryBetween_88 ⟨by unfold R32; omega, ?_⟩⟩⟩
      · rw [e, if_neg (fun z => by rw [if_pos z.2] at hy; omega), Int.add_zero] at k
        exact k
      · have hw : u ≤ r i ∧ d i ≤ v := Decidable.byContradiction fun z => by rw [if_neg z] at hy; omega
        rw [e, if_pos ⟨by rw [eg]; exact q, hw⟩] at k
        rw [hj.2.2]
        exact k
theorem try_ok (f : JF n r d w pl) (h : JC D n r d w pl) {u v : Nat} (hu : u ≤ 200) (hv : v ≤ 200) (hcf : ∀ t : Nat, t ≤ 200 → D 463 t = cf (gsD D) t) (hBW : 0 ≤ D 457 11 ∧ D 457 11 ≤ 12000) (hBT : 0 ≤ D 457 12 ∧ D 457 12 ≤ 200) :
    CV g M_Pl_tryBetween [vR 457, vR 1, vI u, vI v] D (fun D' => Try D D' u v (wki n r d w (gjD D) u v) (if u < v then cf (gsD D) v - cf (gsD D) u else 0)) := by
  have c1 := hcf u hu
  have c2 := hcf v hv
  have b1 := cf_bd (gs := gsD D) (t := u)
  have b2 := cf_bd (gs := gsD D) (t := v)
  have no : ∀ tm, tm < 1 → Try D D u v (wki n r d w (gjD D) u v) tm := fun tm htm => ⟨FR.rf, fun _ _ => rfl, Or.inr ⟨fun z => by have := z.1; omega, fun _ => rfl⟩⟩
  refine CV.intro mc_Pl_tryBetween (Nat.le_of_ble_eq_true rfl) rfl (s_Pl_tryBetween_0 ⟨fun q => by omega, fun _ => ⟨fun q => by omega, fun _ => ⟨fun q => ⟨⟨by omega, by omega, by unfold R32; omega⟩, fun q2 => ?_, fun q2 => retV ?_⟩, fun q => retV ?_⟩⟩⟩)
  · rw [if_pos (by omega), c1, c2]
    exact try_loop f h (by omega) hBW hBT n 0 (by omega)
  · rw [if_pos (by omega)]
    exact no _ (by omega)
  · rw [if_neg (by omega)]
    exact no _ (by omega)
end PLAN1
