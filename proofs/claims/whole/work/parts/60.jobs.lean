/-! the jobs, as both hold them -/
def JF (n : Nat) (r d w : Nat → Int) (pl : Nat → Nat) : Prop := n ≤ 12 ∧ (∀ j, j < n → 0 ≤ r j ∧ r j < d j ∧ d j ≤ 200) ∧ (∀ j, j < n → 0 < w j ∧ w j ≤ 1000) ∧ Pl n d pl
def JC (D : DD) (n : Nat) (r d w : Nat → Int) (pl : Nat → Nat) : Prop := D 1 0 = n ∧ (∀ j : Nat, j < n → D 2 j = r j ∧ D 3 j = d j ∧ D 4 j = w j) ∧ ∀ q : Nat, q < n → D 5 q = pl q
def JM (D : DD) (n : Nat) (r d w : Nat → Int) : Prop := D 708 3 = n ∧ ∀ j : Nat, j < n → D 711 j = r j ∧ D 712 j = d j ∧ D 713 j = w j
theorem JC.of {D D' : DD} {n : Nat} {r d w : Nat → Int} {pl : Nat → Nat} (h : JC D n r d w pl) (f : ∀ c, 1 ≤ c → c < 6 → D' c = D c) : JC D' n r d w pl := by
  unfold JC
  rw [f 1 (by omega) (by omega), f 2 (by omega) (by omega), f 3 (by omega) (by omega), f 4 (by omega) (by omega), f 5 (by omega) (by omega)]
  exact h
theorem JC.fr {lo hi lo2 hi2 : Nat} {D D' : DD} {n : Nat} {r d w : Nat → Int} {pl : Nat → Nat} (h : JC D n r d w pl) (f : FR lo hi lo2 hi2 D D') (q : 6 ≤ lo ∧ 6 ≤ lo2) : JC D' n r d w pl := h.of fun c c1 c2 => f c (by omega) (by omega)
theorem JM.of {D D' : DD} {n : Nat} {r d w : Nat → Int} (h : JM D n r d w) (f0 : D' 708 3 = D 708 3) (f : ∀ c, 711 ≤ c → c < 714 → D' c = D c) : JM D' n r d w := by
  unfold JM
  rw [f0, f 711 (by omega) (by omega), f 712 (by omega) (by omega), f 713 (by omega) (by omega)]
  exact h
section JOBS
variable {g : GG} {D : DD} {n : Nat} {r d w : Nat → Int} {pl : Nat → Nat}
theorem joHas_ok (h : JC D n r d w pl) {i : Int} : CI g M_Jo_has [vR 1, vI i] D (fun x D' => D' = D ∧ x = if 0 ≤ i ∧ i < n then 1 else 0) := by
  have h1 := h.1
  refine CI.intro mc_Jo_has (Nat.le_of_ble_eq_true rfl) rfl (s_Jo_has_0 ⟨fun q => retI ⟨rfl, ?_⟩, fun q => ⟨fun q2 => retI ⟨rfl, ?_⟩, fun q2 => retI ⟨rfl, ?_⟩⟩⟩)
  · rw [if_neg (by omega)]
  · rw [if_neg (by omega)]
  · rw [if_pos (by omega)]
theorem within_ok (f : JF n r d w pl) (h : JC D n r d w pl) {i : Nat} (hi : i < n) {u v : Int} : CI g M_Jo_isWithin [vR 1, vI i, vI u, vI v] D (fun x D' => D' = D ∧ x = if u ≤ r i ∧ d i ≤ v then 1 else 0) := by
  have hf := f.1
  have hj := h.2.1 i hi
  refine CI.intro mc_Jo_isWithin (Nat.le_of_ble_eq_true rfl) rfl (s_Jo_isWithin_0 ((joHas_ok h).mono fun y D2 q => ?_))
  obtain ⟨rfl, hy⟩ := q
  rw [if_pos ⟨by omega, by omega⟩] at hy
  refine s_Jo_isWithin_5 ⟨fun q => by omega, fun _ => ⟨by omega, fun q => retI ⟨rfl, ?_⟩, fun q => ⟨by omega, fun q2 => retI ⟨rfl, ?_⟩, fun q2 => retI ⟨rfl, ?_⟩⟩⟩⟩
  · rw [if_neg (by omega)]
  · rw [if_neg (by omega)]
  · rw [if_pos (by omega)]
/-- the work between two times -/
def wkb (n : Nat) (r d w : Nat → Int) (u v : Int) : Int := si (fun j => if u ≤ r j ∧ d j ≤ v then w j else 0) n
theorem wkb_bd (f : JF n r d w pl) {u v : Int} {m : Nat} (hm : m ≤ n) : 0 ≤ wkb m r d w u v ∧ wkb m r d w u v ≤ 1000 * m := by
  have a := si_nn (f := fun j => if u ≤ r j ∧ d j ≤ v then w j else 0) (n := m) (fun i hi => by
    have := f.2.2.1 i (by omega)
    show 0 ≤ (if u ≤ r i ∧ d i ≤ v then w i else 0)
    split <;> omega)
  have b := si_le (f := fun j => if u ≤ r j ∧ d j ≤ v then w j else 0) (n := m) (B := 1000) (fun i hi => by
    have := f.2.2.1 i (by omega)
    show (if u ≤ r i ∧ d i ≤ v then w i else 0) ≤ 1000
    split <;> omega)
  unfold wkb
  omega
theorem wkb_rat {u v : Int} : (wkb n r d w u v : Rat) = sp (fun j => u ≤ r j ∧ d j ≤ v) (fun j => (w j : Rat)) n := by
  unfold wkb
  rw [si_rat]
  have := sp_ite (P := fun _ => True) (Q := fun j => u ≤ r j ∧ d j ≤ v) (y := fun j => (w j : Rat)) (n := n)
  rw [sp_all (fun _ _ => trivial)] at this
  rw [sp_congr (P := fun j => u ≤ r j ∧ d j ≤ v) (P' := fun t => True ∧ u ≤ r t ∧ d t ≤ v) (h := fun j => (w j : Rat)) (fun i hi => ⟨fun q => ⟨trivial, q⟩, fun q => q.2⟩) (fun _ _ _ => rfl), ← this]
  exact su_congr fun i hi => by
    show ((if u ≤ r i ∧ d i ≤ v then w i else 0 : Int) : Rat) = if u ≤ r i ∧ d i ≤ v then (w i : Rat) else 0
    split
    · rfl
    · rfl
theorem workWithin_loop (f : JF n r d w pl) (h : JC D n r d w pl) {u v : Int} : ∀ (m i : Nat), i + m = n → Sg g M_Jo_workWithin (rI (fun x D' => D' = D ∧ x = wkb n r d w u v)) 5 [vR 1, vI u, vI v, vI (wkb i r d w u v), vI i] [] D := by
  have hf := f.1
  have h1 := h.1
  intro m
  induction m with
  | zero =>
    intro i hi
    obtain rfl : i = n := by omega
    exact s_Jo_workWithin_5 ⟨fun _ => retI ⟨rfl, rfl⟩, fun q => by omega⟩
  | succ m ih =>
    intro i hi
    have k := ih (i + 1) (by omega)
    have hj := h.2.1 i (by omega)
    have bd := wkb_bd f (u := u) (v := v) (m := i) (by omega)
    have wb := f.2.2.1 i (by omega)
    have e : wkb (i + 1) r d w u v = wkb i r d w u v + if u ≤ r i ∧ d i ≤ v then w i else 0 := rfl
    refine s_Jo_workWithin_5 ⟨fun q => by omega, fun _ => (within_ok f h (by omega)).mono fun y D2 q => ?_⟩
    obtain ⟨rfl, rfl⟩ := q
    refine s_Jo_workWithin_22 ⟨fun q => s_Jo_workWithin_35 ⟨by unfold R32; omega, ?_⟩, fun q => ⟨⟨by omega, by unfold R32; omega⟩, s_Jo_workWithin_35 ⟨by unfold R32; omega, ?_⟩⟩⟩
    · rw [e, if_neg (fun z => by rw [if_pos z] at q; omega), Int.add_zero] at k
      exact k
    · rw [e, if_pos (Decidable.byContradiction fun z => by rw [if_neg z] at q; omega)] at k
      rw [hj.2.2]
      exact k
theorem workWithin_ok (f : JF n r d w pl) (h : JC D n r d w pl) {u v : Int} : CI g M_Jo_workWithin [vR 1, vI u, vI v] D (fun x D' => D' = D ∧ x = wkb n r d w u v) :=
  CI.intro mc_Jo_workWithin (Nat.le_of_ble_eq_true rfl) rfl (s_Jo_workWithin_0 (workWithin_loop f h n 0 (by omega)))
theorem allWork_ok (f : JF n r d w pl) (h : JC D n r d w pl) : CI g M_Jo_allWork [vR 1] D (fun x D' => D' = D ∧ x = wkb n r d w 0 200) :=
  CI.intro mc_Jo_allWork (Nat.le_of_ble_eq_true rfl) rfl (s_Jo_allWork_0 ((workWithin_ok f h).mono fun _ _ q => s_Jo_allWork_8 (retI q)))
/-- the least release behind a time -/
def NRel (n : Nat) (r : Nat → Int) (b o y : Int) : Prop := (y = o ∧ ∀ j, j < n → r j ≤ b) ∨ ((∃ j, j < n ∧ r j = y) ∧ b < y ∧ ∀ j, j < n → b < r j → y ≤ r j)
theorem nextRelease_loop (f : JF n r d w pl) (h : JC D n r d w pl) {b o : Int} (hb : -1 ≤ b) : ∀ (m i : Nat) (x : Int), i + m = n → ((x = -1 ∧ ∀ j, j < i → r j ≤ b) ∨ ((∃ j, j < i ∧ r j = x) ∧ b < x ∧ ∀ j, j < i → b < r j → x ≤ r j)) → Sg g M_Jo_nextRelease (rI (fun y D' => D' = D ∧ NRel n r b o y)) 5 [vR 1, vI b, vI o, vI x, vI i] [] D := by
  have hf := f.1
  have h1 := h.1
  intro m
  induction m with
  | zero =>
    intro i x hi hx
    obtain rfl : i = n := by omega
    refine s_Jo_nextRelease_5 ⟨fun _ => ⟨fun q => retI ⟨rfl, ?_⟩, fun q => retI ⟨rfl, ?_⟩⟩, fun q => by omega⟩
    · rcases hx with y | y
      · omega
      · exact Or.inr y
    · rcases hx with y | y
      · exact Or.inl ⟨rfl, y.2⟩
      · omega
  | succ m ih =>
    intro i x hi hx
    have hj := (h.2.1 i (by omega)).1
    have hr := (f.2.1 i (by omega)).1
    have up : ∀ x', ((x' = -1 ∧ ∀ j, j < i + 1 → r j ≤ b) ∨ ((∃ j, j < i + 1 ∧ r j = x') ∧ b < x' ∧ ∀ j, j < i + 1 → b < r j → x' ≤ r j)) → Sg g M_Jo_nextRelease (rI (fun y D' => D' = D ∧ NRel n r b o y)) 49 [vR 1, vI b, vI o, vI x', vI i] [] D := fun x' q => s_Jo_nextRelease_49 ⟨by unfold R32; omega, ih (i + 1) x' (by omega) q⟩
    have new : b < r i → (x = -1 ∨ r i < x) → Sg g M_Jo_nextRelease (rI (fun y D' => D' = D ∧ NRel n r b o y)) 41 [vR 1, vI b, vI o, vI x, vI i] [] D := by
      intro q1 q2
      refine s_Jo_nextRelease_41 ⟨by omega, ?_⟩
      rw [hj]
      refine up _ (Or.inr ⟨⟨i, by omega, rfl⟩, q1, fun j j1 j2 => ?_⟩)
      rcases (show j = i ∨ j < i by omega) with y | y
      · rw [y]; exact Int.le_refl _
      · rcases hx with z | z
        · have := z.2 j y; omega
        · have := z.2.2 j y j2; omega
    refine s_Jo_nextRelease_5 ⟨fun q => by omega, fun _ => ⟨by omega, fun q => up x ?_, fun q => ⟨fun q2 => new (by omega) (Or.inl q2), fun q2 => ⟨by omega, fun q3 => up x ?_, fun q3 => new (by omega) (Or.inr (by omega))⟩⟩⟩⟩
    · rcases hx with z | z
      · refine Or.inl ⟨z.1, fun j j1 => ?_⟩
        rcases (show j = i ∨ j < i by omega) with y | y
        · rw [y]; omega
        · exact z.2 j y
      · obtain ⟨⟨j0, a1, a2⟩, a3, a4⟩ := z
        refine Or.inr ⟨⟨j0, by omega, a2⟩, a3, fun j j1 j2 => ?_⟩
        rcases (show j = i ∨ j < i by omega) with y | y
        · rw [y] at j2; omega
        · exact a4 j y j2
    · rcases hx with z | z
      · omega
      · obtain ⟨⟨j0, a1, a2⟩, a3, a4⟩ := z
        refine Or.inr ⟨⟨j0, by omega, a2⟩, a3, fun j j1 j2 => ?_⟩
        rcases (show j = i ∨ j < i by omega) with y | y
        · rw [y]; omega
        · exact a4 j y j2
theorem nextRelease_ok (f : JF n r d w pl) (h : JC D n r d w pl) {b o : Int} (hb : -1 ≤ b) : CI g M_Jo_nextRelease [vR 1, vI b, vI o] D (fun y D' => D' = D ∧ NRel n r b o y) :=
  CI.intro mc_Jo_nextRelease (Nat.le_of_ble_eq_true rfl) rfl (s_Jo_nextRelease_0 (nextRelease_loop f h hb n 0 (-1) (by omega) (Or.inl ⟨rfl, fun j hj => by omega⟩)))
theorem firstRelease_ok (f : JF n r d w pl) (h : JC D n r d w pl) : CI g M_Jo_firstRelease [vR 1] D (fun y D' => D' = D ∧ NRel n r (-1) 0 y) :=
  CI.intro mc_Jo_firstRelease (Nat.le_of_ble_eq_true rfl) rfl (s_Jo_firstRelease_0 ((nextRelease_ok f h (by omega)).mono fun _ _ q => s_Jo_firstRelease_6 (retI q)))
/-- the last deadline, 0 without jobs -/
def LDl (n : Nat) (d : Nat → Int) (y : Int) : Prop := (n = 0 ∧ y = 0) ∨ ((∃ j, j < n ∧ d j = y) ∧ ∀ j, j < n → d j ≤ y)
theorem lastDeadline_ok (f : JF n r d w pl) (h : JC D n r d w pl) : CI g M_Jo_lastDeadline [vR 1] D (fun y D' => D' = D ∧ LDl n d y) := by
  have hf := f.1
  have h1 := h.1
  refine CI.intro mc_Jo_lastDeadline (Nat.le_of_ble_eq_true rfl) rfl (s_Jo_lastDeadline_0 ⟨fun q => retI ⟨rfl, Or.inl ⟨by omega, rfl⟩⟩, fun q => ?_⟩)
  have hn : n - 1 < n := by omega
  have h5 := h.2.2 (n - 1) hn
  have e : D 1 0 - 1 = ((n - 1 : Nat) : Int) := by omega
  have hp := f.2.2.2.1 (n - 1) hn
  have hd := (h.2.1 (pl (n - 1)) hp).2.1
  rw [e, h5, hd]
  refine ⟨⟨by unfold R32; omega, by omega, by omega⟩, retI ⟨rfl, Or.inr ⟨⟨pl (n - 1), hp, rfl⟩, fun j hj => ?_⟩⟩⟩
  obtain ⟨q, q1, rfl⟩ := f.2.2.2.2.2 j hj
  rcases (show q = n - 1 ∨ q < n - 1 by omega) with y | y
  · rw [y]; exact Int.le_refl _
  · have := f.2.2.2.2.1 q (n - 1) y (by omega); omega
theorem mFirst_loop (f : JF n r d w pl) (h : JM D n r d w) : ∀ (m i : Nat) (x : Int), i + m = n → (((i = 0 ∧ x = 200) ∨ ∃ j, j < i ∧ r j = x) ∧ ∀ j, j < i → x ≤ r j) → Sg g M_Mo_firstRelease (rI (fun y D' => D' = D ∧ ((n = 0 ∧ y = 200) ∨ ∃ j, j < n ∧ r j = y) ∧ ∀ j, j < n → y ≤ r j)) 6 [vR 708, vI x, vI i] [] D := by
  have hf := f.1
  have h1 := h.1
  intro m
  induction m with
  | zero =>
    intro i x hi hx
    obtain rfl : i = n := by omega
    exact s_Mo_firstRelease_6 ⟨fun _ => retI ⟨rfl, hx⟩, fun q => by omega⟩
  | succ m ih =>
    intro i x hi hx
    have hj := (h.2 i (by omega)).1
    have hr := f.2.1 i (by omega)
    refine s_Mo_firstRelease_6 ⟨fun q => by omega, fun _ => ⟨by omega, fun q => s_Mo_firstRelease_34 ⟨by unfold R32; omega, ih (i + 1) x (by omega) ⟨?_, fun j j1 => ?_⟩⟩, fun q => ⟨by omega, s_Mo_firstRelease_34 ⟨by unfold R32; omega, ih (i + 1) _ (by omega) ⟨Or.inr ⟨i, by omega, hj.symm⟩, fun j j1 => ?_⟩⟩⟩⟩⟩
    · rcases hx.1 with y | ⟨j, j1, j2⟩
      · omega
      · exact Or.inr ⟨j, by omega, j2⟩
    · rcases (show j = i ∨ j < i by omega) with y | y
      · rw [y]; omega
      · exact hx.2 j y
    · rcases (show j = i ∨ j < i by omega) with y | y
      · rw [y]; omega
      · have := hx.2 j y; omega
theorem mFirst_ok (f : JF n r d w pl) (h : JM D n r d w) : CI g M_Mo_firstRelease [vR 708] D (fun y D' => D' = D ∧ ((n = 0 ∧ y = 200) ∨ ∃ j, j < n ∧ r j = y) ∧ ∀ j, j < n → y ≤ r j) :=
  CI.intro mc_Mo_firstRelease (Nat.le_of_ble_eq_true rfl) rfl (s_Mo_firstRelease_0 (mFirst_loop f h n 0 200 (by omega) ⟨Or.inl ⟨rfl, rfl⟩, fun j hj => by omega⟩))
theorem mLast_loop (f : JF n r d w pl) (h : JM D n r d w) : ∀ (m i : Nat) (x : Int), i + m = n → (((i = 0 ∧ x = 0) ∨ ∃ j, j < i ∧ d j = x) ∧ ∀ j, j < i → d j ≤ x) → Sg g M_Mo_lastDeadline (rI (fun y D' => D' = D ∧ LDl n d y)) 4 [vR 708, vI x, vI i] [] D := by
  have hf := f.1
  have h1 := h.1
  intro m
  induction m with
  | zero =>
    intro i x hi hx
    obtain rfl : i = n := by omega
    refine s_Mo_lastDeadline_4 ⟨fun _ => retI ⟨rfl, ?_⟩, fun q => by omega⟩
    rcases hx.1 with y | y
    · exact Or.inl y
    · exact Or.inr ⟨y, hx.2⟩
  | succ m ih =>
    intro i x hi hx
    have hj := (h.2 i (by omega)).2.1
    have hr := f.2.1 i (by omega)
    refine s_Mo_lastDeadline_4 ⟨fun q => by omega, fun _ => ⟨by omega, fun q => s_Mo_lastDeadline_32 ⟨by unfold R32; omega, ih (i + 1) x (by omega) ⟨?_, fun j j1 => ?_⟩⟩, fun q => ⟨by omega, s_Mo_lastDeadline_32 ⟨by unfold R32; omega, ih (i + 1) _ (by omega) ⟨Or.inr ⟨i, by omega, hj.symm⟩, fun j j1 => ?_⟩⟩⟩⟩⟩
    · rcases hx.1 with y | ⟨j, j1, j2⟩
      · omega
      · exact Or.inr ⟨j, by omega, j2⟩
    · rcases (show j = i ∨ j < i by omega) with y | y
      · rw [y]; omega
      · exact hx.2 j y
    · rcases (show j = i ∨ j < i by omega) with y | y
      · rw [y]; omega
      · have := hx.2 j y; omega
theorem mLast_ok (f : JF n r d w pl) (h : JM D n r d w) : CI g M_Mo_lastDeadline [vR 708] D (fun y D' => D' = D ∧ LDl n d y) :=
  CI.intro mc_Mo_lastDeadline (Nat.le_of_ble_eq_true rfl) rfl (s_Mo_lastDeadline_0 (mLast_loop f h n 0 0 (by omega) ⟨Or.inl ⟨rfl, rfl⟩, fun j hj => by omega⟩))
end JOBS
