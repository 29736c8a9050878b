/-! the model: open, isWithin, commonOf -/
theorem cf_s {gs : Nat → Int} {t : Nat} : cf gs (t + 1) = cf gs t + if gs t = -1 then 1 else 0 := rfl
theorem cf_mono {gs : Nat → Int} {x : Nat} : ∀ {k : Nat}, cf gs x ≤ cf gs (x + k)
  | 0 => Int.le_refl _
  | k + 1 => by
    have ih := cf_mono (gs := gs) (x := x) (k := k)
    rw [show x + (k + 1) = (x + k) + 1 by omega, cf_s]
    split <;> omega
theorem cf_le {gs : Nat → Int} {x y : Nat} (h : x ≤ y) : cf gs x ≤ cf gs y := by
  have := cf_mono (gs := gs) (x := x) (k := y - x)
  rwa [show x + (y - x) = y by omega] at this
theorem cf_eq {gs : Nat → Int} {x y : Nat} (h : x ≤ y) : cf gs x = cf gs y ↔ ∀ t, x ≤ t → t < y → gs t ≠ -1 := by
  constructor
  · intro e t h1 h2 q
    have a := cf_le (gs := gs) h1
    have b := cf_le (gs := gs) (show t + 1 ≤ y by omega)
    rw [cf_s, if_pos q] at b
    omega
  · intro q
    obtain ⟨k, rfl⟩ : ∃ k, y = x + k := ⟨y - x, by omega⟩
    clear h
    induction k with
    | zero => rfl
    | succ k ih =>
      have := ih fun t h1 h2 => q t h1 (by omega)
      rw [show x + (k + 1) = (x + k) + 1 by omega, cf_s, if_neg (q (x + k) (by omega) (by omega))]
      omega
/-- free times of a job's window within a stretch, less all of its free times -/
def ino (gs : Nat → Int) (r d : Nat → Int) (u v j : Nat) : Int := (if max (r j).toNat u < min (d j).toNat v then cf gs (min (d j).toNat v) - cf gs (max (r j).toNat u) else 0) - (cf gs (d j).toNat - cf gs (r j).toNat)
theorem ino_fin {n : Nat} {r d gs : Nat → Int} {G : Int} (win : ∀ j, j < n → 0 ≤ r j ∧ r j < d j ∧ d j ≤ 200) (hgs : ∀ t, t < 200 → -1 ≤ gs t ∧ gs t < G) (hG : 0 ≤ G) {u v j : Nat} (hj : j < n) : ino gs r d u v j = 0 ↔ fin gs G r d u v j := by
  have wj := win j hj
  obtain ⟨a, ha⟩ : ∃ a : Nat, r j = a := ⟨(r j).toNat, by omega⟩
  obtain ⟨b, hb⟩ : ∃ b : Nat, d j = b := ⟨(d j).toNat, by omega⟩
  have fr : ∀ t, t < 200 → (fre gs G t ↔ gs t = -1) := fun t ht => by
    have := hgs t ht
    unfold fre
    omega
  unfold ino fin
  rw [ha, hb, Int.toNat_natCast, Int.toNat_natCast]
  split
  · rename_i hlt
    have c1 := cf_le (gs := gs) (show a ≤ max a u by omega)
    have c2 := cf_le (gs := gs) (show min b v ≤ b by omega)
    have e1 := cf_eq (gs := gs) (show a ≤ max a u by omega)
    have e2 := cf_eq (gs := gs) (show min b v ≤ b by omega)
    constructor
    · intro q t ht t1 t2 t3
      have q1 := e1.mp (by omega)
      have q2 := e2.mp (by omega)
      have z := (fr t ht).mp t3
      refine ⟨?_, ?_⟩
      · rcases Nat.lt_or_ge t u with y | y
        · exact absurd z (q1 t (by omega) (by omega))
        · exact y
      · rcases Nat.lt_or_ge t v with y | y
        · exact y
        · exact absurd z (q2 t (by omega) (by omega))
    · intro q
      have q1 := e1.mpr fun t t1 t2 z => by
        have := q t (by omega) (by omega) (by omega) ((fr t (by omega)).mpr z)
        omega
      have q2 := e2.mpr fun t t1 t2 z => by
        have := q t (by omega) (by omega) (by omega) ((fr t (by omega)).mpr z)
        omega
      omega
  · rename_i hlt
    have e := cf_eq (gs := gs) (show a ≤ b by omega)
    constructor
    · intro q t ht t1 t2 t3
      exact absurd ((fr t ht).mp t3) (e.mp (by omega) t (by omega) (by omega))
    · intro q
      have := e.mpr fun t t1 t2 z => by
        have := q t (by omega) (by omega) (by omega) ((fr t (by omega)).mpr z)
        omega
      omega
section MPLAN1
variable {g : GG} {D : DD} {n : Nat} {r d w : Nat → Int} {pl : Nat → Nat} {gs gj : Nat → Int}
theorem open_loop (hf : ∀ t : Nat, t < 200 → (D 716 t = 0 ↔ gs t = -1)) {u v : Nat} (hv : v ≤ 200) : ∀ (m t : Nat) (z1 : VV), t + m = max u v → u ≤ t → Sg g M_Mo_open (rI (fun y D' => D' = D ∧ y = if u < v then cf gs v - cf gs u else 0)) 5 [vR 708, z1, vI v, vI (cf gs t - cf gs u), vI t] [] D := by
  intro m
  induction m with
  | zero =>
    intro t z1 hm hu
    refine s_Mo_open_5 ⟨fun _ => retI ⟨rfl, ?_⟩, fun q => by omega⟩
    split
    · rw [show t = v by omega]
    · rw [show t = u by omega]; omega
  | succ m ih =>
    intro t z1 hm hu
    have c1 := cf_bd (gs := gs) (t := t)
    have c2 := cf_bd (gs := gs) (t := u)
    have h := hf t (by omega)
    refine s_Mo_open_5 ⟨fun q => by omega, fun _ => ⟨by omega, fun q => s_Mo_open_27 ⟨⟨by unfold R32; omega, by unfold R32; omega⟩, ?_⟩, fun q => s_Mo_open_27 ⟨⟨by unfold R32; omega, by unfold R32; omega⟩, ?_⟩⟩⟩
    · have e : cf gs t - cf gs u + 1 = cf gs (t + 1) - cf gs u := by rw [cf_s, if_pos (h.mp q)]; omega
      rw [e]
      exact ih (t + 1) _ (by omega) (by omega)
    · have e : cf gs t - cf gs u + 0 = cf gs (t + 1) - cf gs u := by rw [cf_s, if_neg (fun z => q (h.mpr z))]; omega
      rw [e]
      exact ih (t + 1) _ (by omega) (by omega)
theorem open_ok (hf : ∀ t : Nat, t < 200 → (D 716 t = 0 ↔ gs t = -1)) {u v : Nat} (hv : v ≤ 200) : CI g M_Mo_open [vR 708, vI u, vI v] D (fun y D' => D' = D ∧ y = if u < v then cf gs v - cf gs u else 0) := by
  have := open_loop (g := g) hf (u := u) hv (max u v - u) u (vI u) (by omega) (by omega)
  rw [show cf gs u - cf gs u = 0 by omega] at this
  exact CI.intro mc_Mo_open (Nat.le_of_ble_eq_true rfl) rfl (s_Mo_open_0 this)
theorem mWithin_ok (f : JF n r d w pl) (h : JM D n r d w) (hf : ∀ t : Nat, t < 200 → (D 716 t = 0 ↔ gs t = -1)) {u v j : Nat} (hj : j < n) (hv : v ≤ 200) (hd : D 719 j = 0 ↔ gj j < 0) : CI g M_Mo_isWithin [vR 708, vI j, vI u, vI v] D (fun y D' => D' = D ∧ y = if gj j < 0 ∧ ino gs r d u v j = 0 then 1 else 0) := by
  have hn := f.1
  have wj := f.2.1 j hj
  obtain ⟨h1, h2, _⟩ := h.2 j hj
  obtain ⟨a, ha⟩ : ∃ a : Nat, r j = a := ⟨(r j).toNat, by omega⟩
  obtain ⟨b, hb⟩ : ∃ b : Nat, d j = b := ⟨(d j).toNat, by omega⟩
  have ei : ino gs r d u v j = (if max a u < min b v then cf gs (min b v) - cf gs (max a u) else 0) - (cf gs b - cf gs a) := by
    unfold ino; rw [ha, hb, Int.toNat_natCast, Int.toNat_natCast]
  rw [ei]
  rw [ha] at h1
  rw [hb] at h2
  have fin1 : ∀ z2 z3 z4 z5 z6, Sg g M_Mo_isWithin (rI (fun y D' => D' = D ∧ y = if gj j < 0 ∧ (if max a u < min b v then cf gs (min b v) - cf gs (max a u) else 0) - (cf gs b - cf gs a) = 0 then 1 else 0)) 63 [vR 708, vI j, z2, z3, z4, z5, z6] [vI (if max a u < min b v then cf gs (min b v) - cf gs (max a u) else 0)] D := by
    intro z2 z3 z4 z5 z6
    generalize (if max a u < min b v then cf gs (min b v) - cf gs (max a u) else 0) = X
    refine s_Mo_isWithin_63 ⟨by omega, fun q => retI ⟨rfl, by rw [if_neg (fun z => q (hd.mpr z.1))]⟩, fun q => ⟨by omega, ?_⟩⟩
    rw [h1, h2]
    refine (open_ok hf (u := a) (v := b) (by omega)).mono fun y D2 r2 => ?_
    obtain ⟨rfl, rfl⟩ := r2
    rw [show (if a < b then cf gs b - cf gs a else (0 : Int)) = cf gs b - cf gs a from if_pos (by omega)]
    refine s_Mo_isWithin_92 ⟨fun q2 => retI ⟨rfl, by rw [if_neg (fun z => q2 (by omega))]⟩, fun q2 => retI ⟨rfl, by rw [if_pos ⟨hd.mp q, by omega⟩]⟩⟩
  have fin2 : ∀ z2 z3 z5 z6 (x y0 : Nat), x = max a u → y0 = min b v → Sg g M_Mo_isWithin (rI (fun y D' => D' = D ∧ y = if gj j < 0 ∧ (if max a u < min b v then cf gs (min b v) - cf gs (max a u) else 0) - (cf gs b - cf gs a) = 0 then 1 else 0)) 42 [vR 708, vI j, z2, z3, vI x, z5, z6] [vI y0] D := by
    intro z2 z3 z5 z6 x y0 e1 e2
    refine s_Mo_isWithin_42 ⟨fun q => ?_, fun q => ?_⟩
    · have := fin1 vU vU (vI x) (vI y0) vU
      rwa [if_neg (show ¬ max a u < min b v by omega)] at this ⊢
    · refine (open_ok hf (u := x) (v := y0) (by omega)).mono fun y D2 r2 => ?_
      obtain ⟨rfl, rfl⟩ := r2
      rw [e1, e2]
      exact s_Mo_isWithin_59 (fin1 _ _ _ _ _)
  have fin3 : ∀ z2 z4 z5 z6 (x : Nat), x = max a u → Sg g M_Mo_isWithin (rI (fun y D' => D' = D ∧ y = if gj j < 0 ∧ (if max a u < min b v then cf gs (min b v) - cf gs (max a u) else 0) - (cf gs b - cf gs a) = 0 then 1 else 0)) 20 [vR 708, vI j, z2, vI v, z4, z5, z6] [vI x] D := by
    intro z2 z4 z5 z6 x e1
    refine s_Mo_isWithin_20 ⟨by omega, fun q => fin2 _ _ _ _ x v e1 (by omega), fun q => ⟨by omega, ?_⟩⟩
    rw [h2]
    exact fin2 _ _ _ _ x b e1 (by omega)
  refine CI.intro mc_Mo_isWithin (Nat.le_of_ble_eq_true rfl) rfl (s_Mo_isWithin_0 ⟨by omega, fun q => fin3 _ _ _ _ u (by omega), fun q => ⟨by omega, ?_⟩⟩)
  rw [h1]
  exact fin3 _ _ _ _ a (by omega)
theorem mGcd_loop {G : Int} : ∀ (N : Nat) (x y : Int) (z0 z1 z2 z3 z8 z9 : VV), 0 ≤ x → 0 ≤ y → y < N → gcdi x y = G → Sg g M_Mo_commonOf (rL (fun v D' => D' = D ∧ v = G)) 6 [z0, z1, z2, z3, vL x, vU, vL y, vU, z8, z9] [] D := by
  intro N
  induction N with
  | zero => intro x y z0 z1 z2 z3 z8 z9 hx hy hN _; omega
  | succ N ih =>
    intro x y z0 z1 z2 z3 z8 z9 hx hy hN hg
    refine s_Mo_commonOf_6 ⟨fun q => retL ⟨rfl, by rw [← hg, q, gcdi_0 hx]⟩, fun q => ⟨⟨hx, by omega⟩, ?_⟩⟩
    have h1 := Int.emod_nonneg x (show y ≠ 0 by omega)
    have h2 := Int.emod_lt_of_pos x (show 0 < y by omega)
    exact ih y (x % y) _ _ _ _ _ _ hy h1 (by omega) (by rw [gcdi_step]; exact hg)
theorem mGcd_ok {x y : Int} (hx : 0 ≤ x) (hy : 0 ≤ y) : CL g M_Mo_commonOf [vL x, vL y] D (fun v D' => D' = D ∧ v = gcdi x y) :=
  CL.intro mc_Mo_commonOf (Nat.le_of_ble_eq_true rfl) rfl (s_Mo_commonOf_0 (mGcd_loop (y.toNat + 1) x y _ _ _ _ _ _ hx hy (by omega) rfl))
end MPLAN1
