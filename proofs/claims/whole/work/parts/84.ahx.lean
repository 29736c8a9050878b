/-! AHEAD's speeds: there are such; what a stretch does -/
section AHX
variable {n : Nat} {r d w : Nat → Int} {pl : Nat → Nat} {R : Nat → Rat} {t k : Nat} {s : Rat} {x : Nat → Rat}
theorem dn_max : ∀ m : Nat, ∃ s : Rat, 0 ≤ s ∧ (∀ D : Nat, t < D → D ≤ m → kn n r d t R D ≤ s * ((D : Rat) - (t : Rat))) ∧ (s = 0 ∨ ∃ D : Nat, t < D ∧ D ≤ m ∧ kn n r d t R D = s * ((D : Rat) - (t : Rat))) := by
  intro m
  induction m with
  | zero => exact ⟨0, Rat.le_refl, fun D h1 h2 => by omega, Or.inl rfl⟩
  | succ m ih =>
    obtain ⟨s, s0, s1, s2⟩ := ih
    rcases Nat.lt_or_ge t (m + 1) with y | y
    · have p := nat_lt_rat y
      rcases Rat.le_total (a := kn n r d t R ((m + 1 : Nat) : Int)) (b := s * (((m + 1 : Nat) : Rat) - (t : Rat))) with z | z
      · refine ⟨s, s0, fun D h1 h2 => ?_, ?_⟩
        · rcases (show D = m + 1 ∨ D ≤ m by omega) with q | q
          · rw [q]; exact z
          · exact s1 D h1 q
        · rcases s2 with s2 | ⟨D, h1, h2, h3⟩
          · exact Or.inl s2
          · exact Or.inr ⟨D, h1, by omega, h3⟩
      · have np : (0 : Rat) < ((m + 1 : Nat) : Rat) - (t : Rat) := by grind
        have e : kn n r d t R ((m + 1 : Nat) : Int) / (((m + 1 : Nat) : Rat) - (t : Rat)) * (((m + 1 : Nat) : Rat) - (t : Rat)) = kn n r d t R ((m + 1 : Nat) : Int) := Rat.div_mul_cancel (by intro z; rw [z] at np; exact absurd np Rat.lt_irrefl)
        have ge : s ≤ kn n r d t R ((m + 1 : Nat) : Int) / (((m + 1 : Nat) : Rat) - (t : Rat)) := by
          refine Rat.le_of_mul_le_mul_right ?_ np
          rw [e]; exact z
        refine ⟨_, Rat.le_trans s0 ge, fun D h1 h2 => ?_, Or.inr ⟨m + 1, y, Nat.le_refl _, e.symm⟩⟩
        rcases (show D = m + 1 ∨ D ≤ m by omega) with q | q
        · rw [q, e]; exact Rat.le_refl
        · have p2 := nat_lt_rat h1
          exact Rat.le_trans (s1 D h1 q) (Rat.mul_le_mul_of_nonneg_right ge (by grind))
    · refine ⟨s, s0, fun D h1 h2 => s1 D h1 (by omega), ?_⟩
      rcases s2 with s2 | ⟨D, h1, h2, h3⟩
      · exact Or.inl s2
      · exact Or.inr ⟨D, h1, by omega, h3⟩
theorem dn_ex : ∃ s, Dn n r d t R s := by
  obtain ⟨s, h1, h2, h3⟩ := dn_max (n := n) (r := r) (d := d) (t := t) (R := R) 200
  exact ⟨s, h1, h2, h3⟩
noncomputable def asel (n : Nat) (r d : Nat → Int) (t : Nat) (R : Nat → Rat) : Rat := Classical.choose (dn_ex (n := n) (r := r) (d := d) (t := t) (R := R))
noncomputable def aleft (n : Nat) (r d w : Nat → Int) (pl : Nat → Nat) : Nat → Nat → Rat
  | 0 => fun j => (w j : Rat)
  | t + 1 => nx n pl (fun j => r j ≤ (t : Int)) (asel n r d t (aleft n r d w pl t)) (aleft n r d w pl t)
/-- AHEAD's speeds -/
noncomputable def ahx (n : Nat) (r d w : Nat → Int) (pl : Nat → Nat) (t : Nat) : Rat := asel n r d t (aleft n r d w pl t)
theorem ahx_left : ∀ t, edf n pl r w (ahx n r d w pl) t = aleft n r d w pl t
  | 0 => rfl
  | t + 1 => by
    show nx n pl _ (ahx n r d w pl t) (edf n pl r w (ahx n r d w pl) t) = _
    rw [ahx_left t]
    rfl
theorem ahx_dn (t : Nat) : Dn n r d t (edf n pl r w (ahx n r d w pl) t) (ahx n r d w pl t) := by
  rw [ahx_left t]
  exact Classical.choose_spec (dn_ex (n := n) (r := r) (d := d) (t := t) (R := aleft n r d w pl t))
theorem ahx_ah : Ah n r d w pl (ahx n r d w pl) := fun t _ => ahx_dn t
/-- on a stretch without releases, up to the deadline, there is one speed -/
theorem Ah.stretch (h : Ah n r d w pl x) (hpl : Pl n d pl) (hw : ∀ j, j < n → 0 < w j) {Ds : Nat} (hD : Ds ≤ 200) (hDn : Dn n r d t (edf n pl r w x t) s) (hDs : s = 0 ∨ (t + k ≤ Ds ∧ kn n r d t (edf n pl r w x t) Ds = s * ((Ds : Rat) - (t : Rat)))) (hr : ∀ j, j < n → (t : Int) < r j → ((t + k : Nat) : Int) ≤ r j) (hk : t + k ≤ 200) :
    ∀ i, i < k → x (t + i) = s := by
  intro i
  induction i using Nat.strongRecOn with
  | _ i ih =>
    intro hi
    have cg : ∀ u, u ≤ t + i → edf n pl r w (fun u => if u < t + i then x u else s) u = edf n pl r w x u := fun u hu => edf_congr fun v hv => if_pos (by omega)
    have a := str_dn (x := fun u => if u < t + i then x u else s) (r := r) (k := k) hpl hw hD (by rw [cg t (by omega)]; exact hDn) (by rw [cg t (by omega)]; exact hDs) hr (fun u u1 u2 => by
      show (if u < t + i then x u else s) = s
      split
      · obtain ⟨j, rfl⟩ : ∃ j, u = t + j := ⟨u - t, by omega⟩
        exact ih j (by omega) (by omega)
      · rfl) i hi
    rw [cg (t + i) (Nat.le_refl _)] at a
    exact (h (t + i) (by omega)).unique a
/-- a place behind a stretch -/
theorem str_left (hpl : Pl n d pl) (hw : ∀ j, j < n → 0 < w j) (hs : 0 ≤ s) (hx : ∀ u, t ≤ u → u < t + k → x u = s) (hr : ∀ j, j < n → (t : Int) < r j → ((t + k : Nat) : Int) ≤ r j) {i : Nat} (hi : i ≤ k) {p : Nat} (hp : p < n) (rp : r (pl p) ≤ (t : Int)) :
    edf n pl r w x (t + i) (pl p) = max (cum (fun j => r j ≤ (t : Int)) (edf n pl r w x t) pl (p + 1) - (i : Rat) * s) 0 - max (cum (fun j => r j ≤ (t : Int)) (edf n pl r w x t) pl p - (i : Rat) * s) 0 := by
  have st := (str_cum (x := x) (r := r) (k := k) hpl hw hs hx hr i hi).1
  have a := st (p + 1) hp
  have b := st p (by omega)
  rw [cum_t rp] at a
  rw [← b, ← a]
  grind
theorem sw_ex {P : Nat → Prop} {k : Nat} (h0 : ¬ P 0) (hk : P k) : ∃ i, i < k ∧ ¬ P i ∧ P (i + 1) := by
  induction k with
  | zero => exact absurd hk h0
  | succ k ih =>
    rcases Classical.em (P k) with y | y
    · obtain ⟨i, a, b, c⟩ := ih y
      exact ⟨i, by omega, b, c⟩
    · exact ⟨k, by omega, y, hk⟩
theorem el_str (hr : ∀ j, j < n → (t : Int) < r j → ((t + k : Nat) : Int) ≤ r j) {i : Nat} (hi : i < k) {R : Nat → Rat} (hpl : Pl n d pl) {p : Nat} (hp : p ≤ n) : cum (fun j => r j ≤ ((t + i : Nat) : Int)) R pl p = cum (fun j => r j ≤ (t : Int)) R pl p :=
  sp_congr (fun q hq => ⟨fun y => by
    rcases Int.lt_or_le t (r (pl q)) with z | z
    · have := hr _ (hpl.1 q (by omega)) z
      omega
    · exact z, fun y => by omega⟩) (fun _ _ _ => rfl)
theorem str_end (hpl : Pl n d pl) (hw : ∀ j, j < n → 0 < w j) (hs : 0 < s) (hx : ∀ u, t ≤ u → u < t + k → x u = s) (hr : ∀ j, j < n → (t : Int) < r j → ((t + k : Nat) : Int) ≤ r j) (hk : t + k ≤ 200) {p : Nat} (hp : p < n) (rp : r (pl p) ≤ (t : Int)) (R0 : 0 < edf n pl r w x t (pl p)) (hc : cum (fun j => r j ≤ (t : Int)) (edf n pl r w x t) pl (p + 1) ≤ (k : Rat) * s) :
    En n r w pl x (pl p) ((t : Rat) + cum (fun j => r j ≤ (t : Int)) (edf n pl r w x t) pl (p + 1) / s) := by
  have sl := fun i (hi : i ≤ k) => str_left (x := x) (r := r) (k := k) hpl hw (Rat.le_of_lt hs) hx hr hi hp rp
  have cm := cum_mono (el := fun j => r j ≤ (t : Int)) (R := edf n pl r w x t) hpl (edf_inv (r := r) (x := x) hpl hw t).1 (show p ≤ p + 1 by omega) hp
  obtain ⟨i, i1, i2, i3⟩ := sw_ex (P := fun i => edf n pl r w x (t + i) (pl p) = 0) (k := k) (fun z => by
    have z : edf n pl r w x t (pl p) = 0 := z
    rw [z] at R0; exact absurd R0 Rat.lt_irrefl) (by
    show edf n pl r w x (t + k) (pl p) = 0
    rw [sl k (Nat.le_refl k)]
    grind)
  have inv := edf_inv (r := r) (x := x) hpl hw (t + i)
  have Rp : 0 < edf n pl r w x (t + i) (pl p) := by
    have := inv.1 (pl p) (hpl.1 p hp)
    grind
  refine ⟨t + i, p, by omega, hp, rfl, Rp, i3, ?_⟩
  rw [hx (t + i) (by omega) (by omega), el_str hr i1 hpl hp]
  have st := (str_cum (x := x) (r := r) (k := k) hpl hw (Rat.le_of_lt hs) hx hr i (by omega)).1
  have a1 := st (p + 1) hp
  have a0 := st p (by omega)
  have c1 := cum_t (R := edf n pl r w x (t + i)) (pl := pl) (el := fun j => r j ≤ (t : Int)) (p := p) rp
  have ei : ((t + i : Nat) : Rat) = (t : Rat) + (i : Rat) := Rat.natCast_add t i
  have ei1 : ((i + 1 : Nat) : Rat) = (i : Rat) + 1 := by rw [Rat.natCast_add]; rfl
  have z := sl (i + 1) (by omega)
  rw [i3, ei1] at z
  -- at the time t + i it has some left, and none behind it
  have pos : 0 < cum (fun j => r j ≤ (t : Int)) (edf n pl r w x t) pl (p + 1) - (i : Rat) * s := by grind
  have le : cum (fun j => r j ≤ (t : Int)) (edf n pl r w x t) pl (p + 1) - (i : Rat) * s ≤ s := by grind
  rw [a1, show max (cum (fun j => r j ≤ (t : Int)) (edf n pl r w x t) pl (p + 1) - (i : Rat) * s) 0 = cum (fun j => r j ≤ (t : Int)) (edf n pl r w x t) pl (p + 1) - (i : Rat) * s by grind, show min (cum (fun j => r j ≤ (t : Int)) (edf n pl r w x t) pl (p + 1) - (i : Rat) * s) s = cum (fun j => r j ≤ (t : Int)) (edf n pl r w x t) pl (p + 1) - (i : Rat) * s by grind, ei]
  grind
theorem str_who (hpl : Pl n d pl) (hw : ∀ j, j < n → 0 < w j) (hs : 0 < s) (hx : ∀ u, t ≤ u → u < t + k → x u = s) (hr : ∀ j, j < n → (t : Int) < r j → ((t + k : Nat) : Int) ≤ r j) {i : Nat} (hi : i < k) {p : Nat} (hp : p < n) (h0 : cum (fun j => r j ≤ (t : Int)) (edf n pl r w x t) pl p ≤ (i : Rat) * s) (h1 : (i : Rat) * s < cum (fun j => r j ≤ (t : Int)) (edf n pl r w x t) pl (p + 1)) :
    Wk n r w pl x (t + i) (pl p) := by
  have st := (str_cum (x := x) (r := r) (k := k) hpl hw (Rat.le_of_lt hs) hx hr i (by omega)).1
  have a1 := st (p + 1) hp
  have a0 := st p (by omega)
  have xe := hx (t + i) (by omega) (by omega)
  refine Or.inr ⟨by rw [xe]; exact hs, p, hp, rfl, ?_, ?_⟩
  · rw [xe, el_str hr hi hpl (by omega), a0]; grind
  · rw [xe, el_str hr hi hpl hp, a1]; grind
end AHX
