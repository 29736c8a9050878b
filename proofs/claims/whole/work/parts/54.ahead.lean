/-! AHEAD, a time of 1 after another -/
/-- what is left of the known jobs with deadlines up to D -/
noncomputable def kn (n : Nat) (r d : Nat → Int) (t : Nat) (R : Nat → Rat) (D : Int) : Rat := sp (fun j => r j ≤ (t : Int) ∧ d j ≤ D) R n
/-- s is the greatest of what is left, divided by the time up to the deadline -/
def Dn (n : Nat) (r d : Nat → Int) (t : Nat) (R : Nat → Rat) (s : Rat) : Prop :=
  0 ≤ s ∧ (∀ D : Nat, t < D → D ≤ 200 → kn n r d t R D ≤ s * ((D : Rat) - (t : Rat))) ∧ (s = 0 ∨ ∃ D : Nat, t < D ∧ D ≤ 200 ∧ kn n r d t R D = s * ((D : Rat) - (t : Rat)))
def Ah (n : Nat) (r d w : Nat → Int) (pl : Nat → Nat) (x : Nat → Rat) : Prop := ∀ t, t < 200 → Dn n r d t (edf n pl r w x t) (x t)
section AHEAD
variable {n : Nat} {r d w : Nat → Int} {pl : Nat → Nat} {R R' : Nat → Rat} {t k : Nat} {s s' : Rat} {el : Nat → Prop} {x x' : Nat → Rat}
theorem nat_lt_rat {a b : Nat} (h : a < b) : (1 : Rat) ≤ (b : Rat) - (a : Rat) := by
  have : ((a + 1 : Nat) : Rat) ≤ (b : Rat) := Rat.natCast_le_natCast.mpr h
  rw [Rat.natCast_add] at this
  grind
theorem Dn.unique (h : Dn n r d t R s) (h' : Dn n r d t R s') : s = s' := by
  have one : ∀ s s' : Rat, Dn n r d t R s → Dn n r d t R s' → s ≤ s' := by
    intro s s' h h'
    rcases h.2.2 with y | ⟨D, h1, h2, h3⟩
    · rw [y]; exact h'.1
    · have a := h'.2.1 D h1 h2
      rw [h3] at a
      have := nat_lt_rat h1
      exact Rat.le_of_mul_le_mul_right a (by grind)
  exact Rat.le_antisymm (one s s' h h') (one s' s h' h)
theorem edf_congr (q : ∀ u, u < t → x u = x' u) : edf n pl r w x t = edf n pl r w x' t := by
  induction t with
  | zero => rfl
  | succ t ih =>
    show nx n pl _ (x t) (edf n pl r w x t) = nx n pl _ (x' t) (edf n pl r w x' t)
    rw [ih (fun u hu => q u (by omega)), q t (by omega)]
theorem Ah.unique (h : Ah n r d w pl x) (h' : Ah n r d w pl x') : ∀ t, t < 200 → x t = x' t := by
  intro t
  induction t using Nat.strongRecOn with
  | _ t ih =>
    intro ht
    have a := h t ht
    have b := h' t ht
    rw [edf_congr (fun u hu => ih u hu (by omega))] at a
    exact a.unique b
theorem cum_nx (hpl : Pl n d pl) {p : Nat} (hp : p ≤ n) : cum el (nx n pl el s R) pl p = cum el R pl p - (min (cum el R pl p) s - min 0 s) := by
  induction p with
  | zero => rw [cum_0, cum_0]; grind
  | succ p ih =>
    have i := ih (by omega)
    rcases Classical.em (el (pl p)) with z | z
    · rw [cum_t z, cum_t (R := R) z, i, nx_at hpl (by omega), cum_t z]
      grind
    · rw [cum_f z, cum_f (R := R) z, i]
/-- no more than s is done -/
theorem nx_dec (hpl : Pl n d pl) (hR : ∀ j, j < n → 0 ≤ R j) (hs : 0 ≤ s) {P : Nat → Prop} : sp P R n - sp P (nx n pl el s R) n ≤ s := by
  rw [← sp_sub, sp_pl hpl]
  have key : ∀ p, p ≤ n → sp (fun q => P (pl q)) (fun q => R (pl q) - nx n pl el s R (pl q)) p ≤ min (cum el R pl p) s - min 0 s := by
    intro p
    induction p with
    | zero => intro _; rw [sp_0, cum_0]; grind
    | succ p ih =>
      intro hp
      have i := ih (by omega)
      have b := part_bd (el := el) (s := s) hpl hR (show p < n by omega)
      rcases Classical.em (P (pl p)) with z | z
      · rw [sp_t (P := fun q => P (pl q)) z, nx_at hpl (by omega)]
        grind
      · rw [sp_f (P := fun q => P (pl q)) z]
        grind
  have := key n (Nat.le_refl n)
  grind
/-- what is left at each time of a profile -/
theorem edf_inv (hpl : Pl n d pl) (hw : ∀ j, j < n → 0 < w j) : ∀ t, (∀ j, j < n → 0 ≤ edf n pl r w x t j) ∧ (∀ j, j < n → (t : Int) ≤ r j → edf n pl r w x t j = (w j : Rat)) ∧ (∀ j, j < n → edf n pl r w x t j ≤ (w j : Rat)) := by
  intro t
  induction t with
  | zero => exact ⟨fun j hj => Rat.intCast_nonneg.mpr (by have := hw j hj; omega), fun _ _ _ => rfl, fun _ _ => Rat.le_refl⟩
  | succ t ih =>
    refine ⟨nx_nn hpl ih.1, fun j hj q => ?_, fun j hj => Rat.le_trans (nx_le hpl ih.1 j hj) (ih.2.2 j hj)⟩
    show nx n pl _ (x t) (edf n pl r w x t) j = _
    rw [nx_off hpl hj (by omega)]
    exact ih.2.1 j hj (by omega)
theorem edf_le (hpl : Pl n d pl) (hw : ∀ j, j < n → 0 < w j) {j : Nat} (hj : j < n) : ∀ k, edf n pl r w x (t + k) j ≤ edf n pl r w x t j := by
  intro k
  induction k with
  | zero => exact Rat.le_refl
  | succ k ih => exact Rat.le_trans (nx_le hpl (edf_inv hpl hw (t + k)).1 j hj) ih
/-- known jobs, behind a time -/
theorem kn_step (hpl : Pl n d pl) (hs : 0 ≤ s) {D : Int} : sp (fun j => r j ≤ (t : Int) ∧ d j ≤ D) (nx n pl (fun j => r j ≤ (t : Int)) s R) n = kn n r d t R D - min (kn n r d t R D) s := by
  obtain ⟨m, hm, hpre⟩ := pl_pre hpl D
  have a := nx_pre (R := R) (el := fun j => r j ≤ (t : Int)) (P := fun j => r j ≤ (t : Int)) hpl hm hpre (fun j hj q => q) hs
  have b := cum_pre (R := R) (el := fun j => r j ≤ (t : Int)) hpl hm hpre
  rw [a, b]
  rfl
/-- each job is done by its deadline -/
theorem Ah.done (h : Ah n r d w pl x) (hpl : Pl n d pl) (hw : ∀ j, j < n → 0 < w j) (win : ∀ j, j < n → 0 ≤ r j ∧ r j < d j ∧ d j ≤ 200) : ∀ t : Nat, t ≤ 200 → ∀ j, j < n → d j ≤ (t : Int) → edf n pl r w x t j = 0 := by
  intro t
  induction t with
  | zero => intro _ j hj q; have := win j hj; omega
  | succ t ih =>
    intro ht j hj q
    have inv := edf_inv (r := r) (x := x) hpl hw t
    have inv' := edf_inv (r := r) (x := x) hpl hw (t + 1)
    have dn := h t (by omega)
    have a := dn.2.1 (t + 1) (by omega) ht
    have e : ((t + 1 : Nat) : Rat) - (t : Rat) = 1 := by rw [Rat.natCast_add]; grind
    rw [e, Rat.mul_one] at a
    have b := kn_step (R := edf n pl r w x t) (r := r) (t := t) hpl dn.1 (D := ((t + 1 : Nat) : Int))
    have hjw := win j hj
    have c := sp_one (P := fun j => r j ≤ (t : Int) ∧ d j ≤ ((t + 1 : Nat) : Int)) (f := edf n pl r w x (t + 1)) hj ⟨by omega, q⟩ (fun i hi _ => inv'.1 i hi)
    have n0 := inv'.1 j hj
    have b' : sp (fun j => r j ≤ (t : Int) ∧ d j ≤ ((t + 1 : Nat) : Int)) (edf n pl r w x (t + 1)) n = kn n r d t (edf n pl r w x t) ((t + 1 : Nat) : Int) - min (kn n r d t (edf n pl r w x t) ((t + 1 : Nat) : Int)) (x t) := b
    grind
theorem Ah.dem (h : Ah n r d w pl x) (hpl : Pl n d pl) (hw : ∀ j, j < n → 0 < w j) (win : ∀ j, j < n → 0 ≤ r j ∧ r j < d j ∧ d j ≤ 200) : Dem n r d w x := by
  intro a b hab hb
  have key : ∀ k, a + k ≤ b → sp (fun j => (a : Int) ≤ r j ∧ d j ≤ b) (fun j => (w j : Rat)) n ≤ sp (fun t => a ≤ t) x (a + k) + sp (fun j => (a : Int) ≤ r j ∧ d j ≤ b) (edf n pl r w x (a + k)) n := by
    intro k
    induction k with
    | zero =>
      intro _
      have e : sp (fun j => (a : Int) ≤ r j ∧ d j ≤ b) (edf n pl r w x (a + 0)) n = sp (fun j => (a : Int) ≤ r j ∧ d j ≤ b) (fun j => (w j : Rat)) n := sp_congr (fun _ _ => Iff.rfl) (fun j hj q => (edf_inv hpl hw a).2.1 j hj q.1)
      rw [e, sp_no (P := fun t => a ≤ t) (f := x) (fun i hi q => by omega)]
      grind
    | succ k ih =>
      intro hk
      have i := ih (by omega)
      have inv := edf_inv (r := r) (x := x) hpl hw (a + k)
      have dn := h (a + k) (by omega)
      have dc := nx_dec (P := fun j => (a : Int) ≤ r j ∧ d j ≤ b) (el := fun j => r j ≤ ((a + k : Nat) : Int)) hpl inv.1 dn.1
      have e : sp (fun t => a ≤ t) x (a + (k + 1)) = sp (fun t => a ≤ t) x (a + k) + x (a + k) := sp_t (P := fun t => a ≤ t) (Nat.le_add_right a k)
      rw [e]
      have e2 : edf n pl r w x (a + (k + 1)) = nx n pl (fun j => r j ≤ ((a + k : Nat) : Int)) (x (a + k)) (edf n pl r w x (a + k)) := rfl
      rw [e2]
      grind
  have q := key (b - a) (by omega)
  rw [show a + (b - a) = b by omega] at q
  rw [sp_congr (f := edf n pl r w x b) (P' := fun j => (a : Int) ≤ r j ∧ d j ≤ b) (h := fun _ => 0) (fun _ _ => Iff.rfl) (fun j hj q => h.done hpl hw win b hb j hj q.2), sp_c, Rat.zero_mul, Rat.add_zero] at q
  exact q
/-- a stretch at one speed without releases: what is left up to a place shrinks evenly -/
theorem str_cum (hpl : Pl n d pl) (hw : ∀ j, j < n → 0 < w j) (hs : 0 ≤ s) (hx : ∀ u, t ≤ u → u < t + k → x u = s) (hr : ∀ j, j < n → (t : Int) < r j → ((t + k : Nat) : Int) ≤ r j) :
    ∀ i, i ≤ k → (∀ p, p ≤ n → cum (fun j => r j ≤ (t : Int)) (edf n pl r w x (t + i)) pl p = max (cum (fun j => r j ≤ (t : Int)) (edf n pl r w x t) pl p - (i : Rat) * s) 0) ∧ (∀ j, j < n → ¬ r j ≤ (t : Int) → edf n pl r w x (t + i) j = edf n pl r w x t j) := by
  intro i
  induction i with
  | zero =>
    intro _
    refine ⟨fun p hp => ?_, fun _ _ _ => rfl⟩
    have := cum_nn (el := fun j => r j ≤ (t : Int)) hpl (edf_inv (r := r) (x := x) hpl hw t).1 hp
    show cum _ (edf n pl r w x t) pl p = _
    have e : ((0 : Nat) : Rat) = 0 := rfl
    rw [e, Rat.zero_mul]
    grind
  | succ i ih =>
    intro hi
    obtain ⟨i1, i2⟩ := ih (by omega)
    have inv := edf_inv (r := r) (x := x) hpl hw (t + i)
    have el_eq : ∀ j, j < n → (r j ≤ ((t + i : Nat) : Int) ↔ r j ≤ (t : Int)) := fun j hj => ⟨fun q => by
      rcases Int.lt_or_le t (r j) with y | y
      · have := hr j hj y; omega
      · exact y, fun q => by omega⟩
    have e2 : edf n pl r w x (t + (i + 1)) = nx n pl (fun j => r j ≤ ((t + i : Nat) : Int)) (x (t + i)) (edf n pl r w x (t + i)) := rfl
    have cc : ∀ f p, p ≤ n → cum (fun j => r j ≤ ((t + i : Nat) : Int)) f pl p = cum (fun j => r j ≤ (t : Int)) f pl p := fun f p hp => sp_congr (fun q hq => el_eq _ (hpl.1 q (by omega))) (fun _ _ _ => rfl)
    refine ⟨fun p hp => ?_, fun j hj q => ?_⟩
    · rw [← cc _ p hp, e2, cum_nx hpl hp, cc _ p hp, i1 p hp, hx (t + i) (by omega) (by omega)]
      have e3 : ((i + 1 : Nat) : Rat) = (i : Rat) + 1 := by rw [Rat.natCast_add]; rfl
      rw [e3, Rat.add_mul, Rat.one_mul]
      grind
    · rw [e2, nx_off hpl hj (fun y => q ((el_eq j hj).mp y))]
      exact i2 j hj q
/-- the greatest one stays it up to the next release, or its deadline -/
theorem str_dn (hpl : Pl n d pl) (hw : ∀ j, j < n → 0 < w j) {Ds : Nat} (hD : Ds ≤ 200) (h : Dn n r d t (edf n pl r w x t) s) (hDs : s = 0 ∨ (t + k ≤ Ds ∧ kn n r d t (edf n pl r w x t) Ds = s * ((Ds : Rat) - (t : Rat)))) (hr : ∀ j, j < n → (t : Int) < r j → ((t + k : Nat) : Int) ≤ r j)
    (hx : ∀ u, t ≤ u → u < t + k → x u = s) : ∀ i, i < k → Dn n r d (t + i) (edf n pl r w x (t + i)) s := by
  intro i hi
  have st := str_cum (x := x) (r := r) hpl hw h.1 hx hr i (by omega)
  have kne : ∀ D : Nat, kn n r d (t + i) (edf n pl r w x (t + i)) D = max (kn n r d t (edf n pl r w x t) D - (i : Rat) * s) 0 := by
    intro D
    obtain ⟨m, hm, hpre⟩ := pl_pre hpl (D : Int)
    have a := st.1 m hm
    rw [cum_pre hpl hm hpre, cum_pre hpl hm hpre] at a
    unfold kn
    rw [← a]
    refine sp_congr (fun j hj => ⟨fun q => ⟨?_, q.2⟩, fun q => ⟨by omega, q.2⟩⟩) (fun _ _ _ => rfl)
    rcases Int.lt_or_le t (r j) with y | y
    · have := hr j hj y; omega
    · exact y
  have ei : ((t + i : Nat) : Rat) = (t : Rat) + (i : Rat) := Rat.natCast_add t i
  refine ⟨h.1, fun D h1 h2 => ?_, ?_⟩
  · rw [kne D, ei]
    have a := h.2.1 D (by omega) h2
    have b := nat_lt_rat h1
    rw [ei] at b
    have c := Rat.mul_nonneg h.1 (show 0 ≤ (D : Rat) - ((t : Rat) + (i : Rat)) by grind)
    grind
  · rcases hDs with y | ⟨y1, y2⟩
    · exact Or.inl y
    · refine Or.inr ⟨Ds, by omega, hD, ?_⟩
      rw [kne Ds, ei, y2]
      have b := nat_lt_rat (show t + i < Ds by omega)
      rw [ei] at b
      have c := Rat.mul_nonneg h.1 (show 0 ≤ (Ds : Rat) - ((t : Rat) + (i : Rat)) by grind)
      grind
end AHEAD
