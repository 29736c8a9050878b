/-! AHEAD: counts and sizes -/
def cN (f : Nat → Bool) : Nat → Nat
  | 0 => 0
  | n + 1 => cN f n + if f n then 1 else 0
theorem cN_le {f : Nat → Bool} : ∀ n, cN f n ≤ n
  | 0 => Nat.le_refl 0
  | n + 1 => by have := cN_le (f := f) n; show cN f n + _ ≤ _; split <;> omega
theorem cN_lt {f : Nat → Bool} {k : Nat} (h : f k = false) : ∀ {n}, k < n → cN f n + 1 ≤ n
  | 0, q => by omega
  | n + 1, q => by
    show cN f n + _ + 1 ≤ _
    rcases (show k = n ∨ k < n by omega) with y | y
    · have := cN_le (f := f) n
      rw [y] at h
      rw [h]
      simp only [Bool.false_eq_true, if_false]
      omega
    · have := cN_lt h y
      split <;> omega
theorem cN_mono {f g : Nat → Bool} : ∀ {n}, (∀ i, i < n → f i = true → g i = true) → cN f n ≤ cN g n
  | 0, _ => Nat.le_refl 0
  | n + 1, q => by
    have ih := cN_mono (f := f) (g := g) (n := n) fun i hi => q i (by omega)
    have a := q n (by omega)
    show cN f n + _ ≤ cN g n + _
    rcases Bool.eq_false_or_eq_true (f n) with y | y
    · rw [y, a y]; omega
    · rw [y]; simp only [Bool.false_eq_true, if_false]; split <;> omega
theorem cN_more {f g : Nat → Bool} {k : Nat} (hf : f k = false) (hg : g k = true) : ∀ {n}, (∀ i, i < n → f i = true → g i = true) → k < n → cN f n + 1 ≤ cN g n
  | 0, _, q => by omega
  | n + 1, q, hk => by
    show cN f n + _ + 1 ≤ cN g n + _
    rcases (show k = n ∨ k < n by omega) with y | y
    · have ih := cN_mono (f := f) (g := g) (n := n) fun i hi => q i (by omega)
      subst y
      rw [hf, hg]
      simp only [Bool.false_eq_true, if_false, if_true]
      omega
    · have ih := cN_more hf hg (n := n) (fun i hi => q i (by omega)) y
      have a := q n (by omega)
      rcases Bool.eq_false_or_eq_true (f n) with x | x
      · rw [x, a x]; omega
      · rw [x]; simp only [Bool.false_eq_true, if_false]; split <;> omega
def rl (r : Nat → Int) (fi t : Int) (n : Nat) : Nat := cN (fun j => decide (fi < r j ∧ r j ≤ t)) n
def dl (d : Nat → Int) (t : Int) (n : Nat) : Nat := cN (fun j => decide (d j ≤ t)) n
theorem rl_mono {r : Nat → Int} {fi t t' : Int} {n : Nat} (h : t ≤ t') : rl r fi t n ≤ rl r fi t' n := cN_mono fun i _ q => by
  have := of_decide_eq_true q
  exact decide_eq_true (by omega)
theorem dl_mono {d : Nat → Int} {t t' : Int} {n : Nat} (h : t ≤ t') : dl d t n ≤ dl d t' n := cN_mono fun i _ q => by
  have := of_decide_eq_true q
  exact decide_eq_true (by omega)
theorem rl_more {r : Nat → Int} {fi t t' : Int} {n : Nat} (h : t < t') (hf : fi ≤ t) (e : ∃ j, j < n ∧ r j = t') : rl r fi t n + 1 ≤ rl r fi t' n := by
  obtain ⟨j, hj, e⟩ := e
  refine cN_more (k := j) (decide_eq_false (by omega)) (decide_eq_true (by omega)) (fun i _ q => ?_) hj
  have := of_decide_eq_true q
  exact decide_eq_true (by omega)
theorem dl_more {d : Nat → Int} {t t' : Int} {n : Nat} (h : t < t') (e : ∃ j, j < n ∧ d j = t') : dl d t n + 1 ≤ dl d t' n := by
  obtain ⟨j, hj, e⟩ := e
  refine cN_more (k := j) (decide_eq_false (by omega)) (decide_eq_true (by omega)) (fun i _ q => ?_) hj
  have := of_decide_eq_true q
  exact decide_eq_true (by omega)
theorem rl_11 {r : Nat → Int} {fi t : Int} {n : Nat} (hn : n ≤ 12) (e : ∃ j, j < n ∧ r j = fi) : rl r fi t n ≤ 11 := by
  obtain ⟨j, hj, e⟩ := e
  have := cN_lt (f := fun j => decide (fi < r j ∧ r j ≤ t)) (k := j) (decide_eq_false (by omega)) hj
  unfold rl
  omega
theorem dl_12 {d : Nat → Int} {t : Int} {n : Nat} (hn : n ≤ 12) : dl d t n ≤ 12 := Nat.le_trans (cN_le n) hn
/-- what a whole stretch adds -/
theorem pow11 : ∀ a : Fin 201, a.val ^ 11 ≤ 2 ^ (28 + a.val) := by decide +kernel
theorem pow11' {a : Nat} (h : a ≤ 200) : a ^ 11 ≤ 2 ^ (28 + a) := pow11 ⟨a, by omega⟩
theorem prod_bd {P e : Nat} (h : P ^ 11 ≤ 2 ^ e) (he : e ≤ 536) : P < 2 ^ 49 := by
  rcases Nat.lt_or_ge P (2 ^ 49) with y | y
  · exact y
  · have a := Nat.pow_le_pow_left y 11
    have b := Nat.pow_le_pow_right (show 0 < 2 by decide) he
    have c : (2 : Nat) ^ 536 < (2 ^ 49) ^ 11 := by decide +kernel
    omega
theorem p200 {e : Nat} (h : e ≤ 11) : (200 : Nat) ^ e < 2 ^ 85 := by
  have : ∀ k : Fin 12, (200 : Nat) ^ k.val < 2 ^ 85 := by decide +kernel
  exact this ⟨e, by omega⟩
/-- a number below all speeds, and how great it may be -/
def LB (x : Nat → Rat) (c : Int) (t u e : Nat) : Prop := ∃ A P : Nat, 0 < A ∧ 0 < P ∧ A ≤ 200 ^ u ∧ P ^ 11 ≤ 2 ^ e ∧ c ∣ ((A * P : Nat) : Int) ∧ ∀ i, i < t → ((x i).den : Int) ∣ ((A * P : Nat) : Int)
theorem LB.mono {x : Nat → Rat} {c : Int} {t u e u' e' : Nat} (h : LB x c t u e) (hu : u ≤ u') (he : e ≤ e') : LB x c t u' e' := by
  obtain ⟨A, P, h1, h2, h3, h4, h5, h6⟩ := h
  exact ⟨A, P, h1, h2, Nat.le_trans h3 (Nat.pow_le_pow_right (by decide) hu), Nat.le_trans h4 (Nat.pow_le_pow_right (by decide) he), h5, h6⟩
theorem LB.same {x : Nat → Rat} {c : Int} {t t' u e : Nat} (h : LB x c t u e) (q : ∀ i, t ≤ i → i < t' → x i = 0) : LB x c t' u e := by
  obtain ⟨A, P, h1, h2, h3, h4, h5, h6⟩ := h
  refine ⟨A, P, h1, h2, h3, h4, h5, fun i hi => ?_⟩
  rcases Nat.lt_or_ge i t with y | y
  · exact h6 i y
  · rw [q i y hi]; exact Int.one_dvd _
/-- a stretch more: its speed is over c times its aim -/
theorem LB.short {x : Nat → Rat} {c c' : Int} {t t' u e a : Nat} (h : LB x c t u e) (ha : 0 < a ∧ a ≤ 200) (hc : c' = c ∨ c' = c * a) (q : ∀ i, t ≤ i → i < t' → ((x i).den : Int) ∣ c * a) : LB x c' t' (u + 1) e := by
  obtain ⟨A, P, h1, h2, h3, h4, h5, h6⟩ := h
  have e : ((A * a * P : Nat) : Int) = ((A * P : Nat) : Int) * (a : Int) := by
    rw [Int.natCast_mul, Int.natCast_mul, Int.natCast_mul]; ac_rfl
  have d : c * (a : Int) ∣ ((A * a * P : Nat) : Int) := by rw [e]; exact Int.mul_dvd_mul_right _ h5
  refine ⟨A * a, P, Nat.mul_pos h1 ha.1, h2, ?_, h4, ?_, fun i hi => ?_⟩
  · rw [Nat.pow_succ]; exact Nat.mul_le_mul h3 ha.2
  · rcases hc with y | y
    · rw [y, e]; exact Int.dvd_mul_of_dvd_left h5
    · rw [y]; exact d
  · rcases Nat.lt_or_ge i t with y | y
    · rw [e]; exact Int.dvd_mul_of_dvd_left (h6 i y)
    · exact Int.dvd_trans (q i y hi) d
theorem LB.whole {x : Nat → Rat} {c : Int} {t t' u e a : Nat} (h : LB x c t u e) (ha : 0 < a ∧ a ≤ 200) (q : ∀ i, t ≤ i → i < t' → ((x i).den : Int) ∣ c * a) : LB x c t' u (e + (28 + a)) := by
  obtain ⟨A, P, h1, h2, h3, h4, h5, h6⟩ := h
  have e1 : ((A * (P * a) : Nat) : Int) = ((A * P : Nat) : Int) * (a : Int) := by
    rw [Int.natCast_mul, Int.natCast_mul, Int.natCast_mul]; ac_rfl
  have d : c * (a : Int) ∣ ((A * (P * a) : Nat) : Int) := by rw [e1]; exact Int.mul_dvd_mul_right _ h5
  refine ⟨A, P * a, h1, Nat.mul_pos h2 ha.1, h3, ?_, by rw [e1]; exact Int.dvd_mul_of_dvd_left h5, fun i hi => ?_⟩
  · rw [Nat.mul_pow, Nat.pow_add]; exact Nat.mul_le_mul h4 (pow11' ha.2)
  · rcases Nat.lt_or_ge i t with y | y
    · rw [e1]; exact Int.dvd_mul_of_dvd_left (h6 i y)
    · exact Int.dvd_trans (q i y hi) d
theorem LB.sz {x : Nat → Rat} {c : Int} {u e : Nat} (h : LB x c 200 u e) (hu : u ≤ 11) (he : e ≤ 536) (hx : ∀ t, t < 200 → 0 ≤ x t ∧ x t ≤ 12000) : ∃ L, SZ x 200 L := by
  obtain ⟨A, P, h1, h2, h3, h4, h5, h6⟩ := h
  have b := prod_bd h4 he
  have b2 := p200 hu
  have m : A * P ≤ 2 ^ 85 * 2 ^ 49 := Nat.mul_le_mul (by omega) (by omega)
  have m2 : (2 : Nat) ^ 85 * 2 ^ 49 < 2 ^ 140 := by decide +kernel
  have m3 : (((2 : Nat) ^ 140 : Nat) : Int) = (2 : Int) ^ 140 := by norm_cast
  have p := Nat.mul_pos h1 h2
  exact ⟨((A * P : Nat) : Int), by omega, by omega, fun t ht => ⟨hx t ht, h6 t ht⟩⟩
section AHB
variable {n : Nat} {r d w : Nat → Int} {pl : Nat → Nat} {x : Nat → Rat}
theorem edf_bd (f : JF n r d w pl) (t : Nat) : ∀ j, j < n → 0 ≤ edf n pl r w x t j ∧ edf n pl r w x t j ≤ 1000 := fun j hj => by
  have inv := edf_inv (r := r) (x := x) f.2.2.2 (fun j hj => (f.2.2.1 j hj).1) t
  have e : (w j : Rat) ≤ ((1000 : Int) : Rat) := Rat.intCast_le_intCast.mpr (f.2.2.1 j hj).2
  have e3 : ((1000 : Int) : Rat) = 1000 := rfl
  rw [e3] at e
  exact ⟨inv.1 j hj, Rat.le_trans (inv.2.2 j hj) e⟩
theorem kn_bd (f : JF n r d w pl) {t : Nat} {R : Nat → Rat} (hR : ∀ j, j < n → 0 ≤ R j ∧ R j ≤ 1000) {D : Int} : 0 ≤ kn n r d t R D ∧ kn n r d t R D ≤ ((12000 : Int) : Rat) := by
  obtain ⟨m, hm, hpre⟩ := pl_pre f.2.2.2 D
  have e := cum_pre (R := R) (el := fun j => r j ≤ (t : Int)) f.2.2.2 hm hpre
  have e2 : kn n r d t R D = cum (fun j => r j ≤ (t : Int)) R pl m := e.symm
  rw [e2]
  exact ⟨cum_nn f.2.2.2 (fun j hj => (hR j hj).1) hm, cum12 f.2.2.2 hm f.1 hR⟩
theorem ah_bd (f : JF n r d w pl) (h : Ah n r d w pl x) : ∀ t, t < 200 → 0 ≤ x t ∧ x t ≤ 12000 := fun t ht => by
  have dn := h t ht
  refine ⟨dn.1, ?_⟩
  rcases dn.2.2 with y | ⟨D, h1, h2, h3⟩
  · rw [y]; decide
  · have k := kn_bd (d := d) f (t := t) (edf_bd (x := x) f t) (D := (D : Int))
    have p := nat_lt_rat h1
    have e3 : ((12000 : Int) : Rat) = 12000 := rfl
    rw [h3, e3] at k
    have m := Rat.mul_le_mul_of_nonneg_left p dn.1
    rw [Rat.mul_one] at m
    exact Rat.le_trans m k.2
/-- nothing is done outside -/
theorem ah_out (f : JF n r d w pl) (h : Ah n r d w pl x) {fi la : Nat} (hr : ∀ j, j < n → (fi : Int) ≤ r j ∧ d j ≤ la) : ∀ t, t < 200 → t < fi ∨ la ≤ t → x t = 0 := fun t ht q => by
  refine (h t ht).unique ⟨Rat.le_refl, fun D h1 h2 => ?_, Or.inl rfl⟩
  rw [Rat.zero_mul]
  have e : kn n r d t (edf n pl r w x t) D = 0 := by
    rcases q with q | q
    · exact sp_no fun j hj z => by have := (hr j hj).1; omega
    · have z := sp_congr (P := fun j => r j ≤ (t : Int) ∧ d j ≤ (D : Int)) (f := edf n pl r w x t) (P' := fun j => r j ≤ (t : Int) ∧ d j ≤ (D : Int)) (h := fun _ => 0) (n := n) (fun _ _ => Iff.rfl) (fun j hj z => h.done f.2.2.2 (fun j hj => (f.2.2.1 j hj).1) f.2.1 t (by omega) j hj (by have := (hr j hj).2; omega))
      rw [sp_c, Rat.zero_mul] at z
      exact z
  rw [e]; exact Rat.le_refl
end AHB
