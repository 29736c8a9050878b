/-! sums over what holds -/
noncomputable def sp (P : Nat → Prop) (f : Nat → Rat) (n : Nat) : Rat := su (fun i => @ite _ (P i) (Classical.propDecidable _) (f i) 0) n
section SUM
variable {P P' R : Nat → Prop} {f h : Nat → Rat} {n m : Nat} {c : Rat}
theorem sp_0 : sp P f 0 = 0 := rfl
theorem sp_t (q : P n) : sp P f (n + 1) = sp P f n + f n := by
  show sp P f n + (@ite _ (P n) (Classical.propDecidable _) (f n) 0) = _
  rw [if_pos q]
theorem sp_f (q : ¬ P n) : sp P f (n + 1) = sp P f n := by
  show sp P f n + (@ite _ (P n) (Classical.propDecidable _) (f n) 0) = _
  rw [if_neg q, Rat.add_zero]
theorem sp_le (q : ∀ i, i < n → P i → P' i ∧ f i ≤ h i) (q2 : ∀ i, i < n → ¬ P i → P' i → 0 ≤ h i) : sp P f n ≤ sp P' h n := by
  induction n with
  | zero => exact Rat.le_refl
  | succ n ih =>
    have h1 := ih (fun i hi => q i (by omega)) (fun i hi => q2 i (by omega))
    rcases Classical.em (P n) with z | z
    · have h2 := q n (by omega) z
      rw [sp_t z, sp_t h2.1]
      grind
    · rw [sp_f z]
      rcases Classical.em (P' n) with y | y
      · have h2 := q2 n (by omega) z y
        rw [sp_t y]
        grind
      · rw [sp_f y]; exact h1
theorem sp_congr (q : ∀ i, i < n → (P i ↔ P' i)) (q2 : ∀ i, i < n → P i → f i = h i) : sp P f n = sp P' h n := by
  induction n with
  | zero => rfl
  | succ n ih =>
    have h1 := ih (fun i hi => q i (by omega)) (fun i hi => q2 i (by omega))
    rcases Classical.em (P n) with z | z
    · rw [sp_t z, sp_t ((q n (by omega)).mp z), h1, q2 n (by omega) z]
    · rw [sp_f z, sp_f (fun y => z ((q n (by omega)).mpr y)), h1]
theorem sp_nn (q : ∀ i, i < n → P i → 0 ≤ f i) : 0 ≤ sp P f n := by
  induction n with
  | zero => exact Rat.le_refl
  | succ n ih =>
    have h1 := ih (fun i hi => q i (by omega))
    rcases Classical.em (P n) with z | z
    · rw [sp_t z]
      have := q n (by omega) z
      grind
    · rw [sp_f z]; exact h1
theorem sp_no (q : ∀ i, i < n → ¬ P i) : sp P f n = 0 := by
  induction n with
  | zero => rfl
  | succ n ih => rw [sp_f (q n (by omega)), ih (fun i hi => q i (by omega))]
theorem sp_all (q : ∀ i, i < n → P i) : sp P f n = su f n := by
  induction n with
  | zero => rfl
  | succ n ih => rw [sp_t (q n (by omega)), ih (fun i hi => q i (by omega))]; rfl
/-- what holds in two ways is counted twice -/
theorem sp_union (q : ∀ i, i < n → P i → P' i ∨ R i) (q2 : ∀ i, i < n → 0 ≤ f i) : sp P f n ≤ sp P' f n + sp R f n := by
  induction n with
  | zero => rw [sp_0, sp_0, sp_0]; grind
  | succ n ih =>
    have h1 := ih (fun i hi => q i (by omega)) (fun i hi => q2 i (by omega))
    have h2 := q2 n (by omega)
    rcases Classical.em (P n) with z | z
    · rw [sp_t z]
      rcases Classical.em (P' n) with y | y <;> rcases Classical.em (R n) with x | x
      · rw [sp_t y, sp_t x]; grind
      · rw [sp_t y, sp_f x]; grind
      · rw [sp_f y, sp_t x]; grind
      · exact absurd (q n (by omega) z) (by rintro (a | a) <;> contradiction)
    · rw [sp_f z]
      rcases Classical.em (P' n) with y | y <;> rcases Classical.em (R n) with x | x
      · rw [sp_t y, sp_t x]; grind
      · rw [sp_t y, sp_f x]; grind
      · rw [sp_f y, sp_t x]; grind
      · rw [sp_f y, sp_f x]; exact h1
theorem sp_split (q : ∀ i, i < n → (P i ↔ (P' i ∨ R i))) (q2 : ∀ i, i < n → P' i → ¬ R i) : sp P f n = sp P' f n + sp R f n := by
  induction n with
  | zero => rw [sp_0, sp_0, sp_0]; grind
  | succ n ih =>
    have h1 := ih (fun i hi => q i (by omega)) (fun i hi => q2 i (by omega))
    have h2 := q n (by omega)
    have h3 := q2 n (by omega)
    rcases Classical.em (P' n) with y | y <;> rcases Classical.em (R n) with x | x
    · exact absurd x (h3 y)
    · rw [sp_t (h2.mpr (Or.inl y)), sp_t y, sp_f x]; grind
    · rw [sp_t (h2.mpr (Or.inr x)), sp_f y, sp_t x]; grind
    · rw [sp_f (fun z => by rcases h2.mp z with a | a <;> contradiction), sp_f y, sp_f x]; exact h1
theorem sp_mul : sp P (fun i => f i * c) n = sp P f n * c := by
  induction n with
  | zero => rw [sp_0, sp_0, Rat.zero_mul]
  | succ n ih =>
    rcases Classical.em (P n) with z | z
    · rw [sp_t z, sp_t z, ih, Rat.add_mul]
    · rw [sp_f z, sp_f z, ih]
theorem sp_add : sp P (fun i => f i + h i) n = sp P f n + sp P h n := by
  induction n with
  | zero => rw [sp_0, sp_0, sp_0, Rat.add_zero]
  | succ n ih =>
    rcases Classical.em (P n) with z | z
    · rw [sp_t z, sp_t z, sp_t z, ih]; grind
    · rw [sp_f z, sp_f z, sp_f z, ih]
theorem sp_sub : sp P (fun i => f i - h i) n = sp P f n - sp P h n := by
  induction n with
  | zero => rw [sp_0, sp_0, sp_0]; grind
  | succ n ih =>
    rcases Classical.em (P n) with z | z
    · rw [sp_t z, sp_t z, sp_t z, ih]; grind
    · rw [sp_f z, sp_f z, sp_f z, ih]
/-- a sum cut at m -/
theorem sp_cut (hm : m ≤ n) : sp P f n = sp P f m + sp (fun i => m ≤ i ∧ P i) f n := by
  induction n with
  | zero =>
    obtain rfl : m = 0 := by omega
    rw [sp_0, sp_0, Rat.add_zero]
  | succ n ih =>
    rcases (show m = n + 1 ∨ m ≤ n by omega) with y | y
    · subst y
      rw [sp_no (P := fun i => n + 1 ≤ i ∧ P i) (fun i hi q => by omega), Rat.add_zero]
    · have h1 := ih y
      rcases Classical.em (P n) with z | z
      · rw [sp_t z, sp_t (P := fun i => m ≤ i ∧ P i) ⟨y, z⟩, h1]; grind
      · rw [sp_f z, sp_f (P := fun i => m ≤ i ∧ P i) (fun q => z q.2), h1]
/-- one term is not more than the whole -/
theorem sp_one {k : Nat} (hk : k < n) (hP : P k) (q : ∀ i, i < n → P i → 0 ≤ f i) : f k ≤ sp P f n := by
  induction n with
  | zero => omega
  | succ n ih =>
    rcases (show k = n ∨ k < n by omega) with y | y
    · subst y
      rw [sp_t hP]
      have := sp_nn (P := P) (f := f) (n := k) (fun i hi => q i (by omega))
      grind
    · have h1 := ih y (fun i hi => q i (by omega))
      rcases Classical.em (P n) with z | z
      · rw [sp_t z]
        have := q n (by omega) z
        grind
      · rw [sp_f z]; exact h1
end SUM
/-- windows within a set of times: if each run of the set has room, the set has -/
theorem run_room {n : Nat} {J : Nat → Prop} {r d : Nat → Int} {w : Nat → Rat} {U : Nat → Prop} {x : Nat → Rat} (hw : ∀ j, j < n → 0 ≤ w j) (hr : ∀ j, j < n → J j → 0 ≤ r j ∧ r j < d j)
    (hP : ∀ c e : Nat, c ≤ e → (∀ t, c ≤ t → t < e → U t) → sp (fun j => J j ∧ (c : Int) ≤ r j ∧ d j ≤ e) w n ≤ sp (fun t => c ≤ t) x e) :
    ∀ e : Nat, sp (fun j => J j ∧ (∀ t : Nat, r j ≤ t → (t : Int) < d j → U t) ∧ d j ≤ e) w n ≤ sp U x e := by
  have start : ∀ e : Nat, ∃ c, c ≤ e ∧ (∀ t, c ≤ t → t < e → U t) ∧ (c = 0 ∨ ¬ U (c - 1)) := by
    intro e
    induction e with
    | zero => exact ⟨0, by omega, fun t _ _ => by omega, Or.inl rfl⟩
    | succ e ih =>
      rcases Classical.em (U e) with z | z
      · obtain ⟨c, h1, h2, h3⟩ := ih
        refine ⟨c, by omega, fun t t1 t2 => ?_, h3⟩
        rcases (show t = e ∨ t < e by omega) with y | y
        · rw [y]; exact z
        · exact h2 t t1 y
      · exact ⟨e + 1, by omega, fun t _ _ => by omega, Or.inr z⟩
  intro e
  induction e using Nat.strongRecOn with
  | _ e ih =>
    match e, ih with
    | 0, _ =>
      rw [sp_no (fun j hj q => by have := hr j hj q.1; omega)]
      exact Rat.le_refl
    | e + 1, ih =>
      rcases Classical.em (U e) with z | z
      · obtain ⟨c, h1, h2, h3⟩ := start (e + 1)
        have hc : c ≤ e := by
          rcases (show c = e + 1 ∨ c ≤ e by omega) with y | y
          · subst y
            rcases h3 with y | y
            · omega
            · exact absurd z y
          · exact y
        have i1 := ih c (by omega)
        have i2 := hP c (e + 1) h1 h2
        have u := sp_union (P := fun j => J j ∧ (∀ t : Nat, r j ≤ t → (t : Int) < d j → U t) ∧ d j ≤ ((e + 1 : Nat) : Int)) (P' := fun j => J j ∧ (∀ t : Nat, r j ≤ t → (t : Int) < d j → U t) ∧ d j ≤ (c : Int)) (R := fun j => J j ∧ (c : Int) ≤ r j ∧ d j ≤ ((e + 1 : Nat) : Int)) (f := w) (n := n) (fun j hj q => ?_) hw
        · have s := sp_cut (P := U) (f := x) h1
          have s2 : sp (fun i => c ≤ i ∧ U i) x (e + 1) = sp (fun t => c ≤ t) x (e + 1) := sp_congr (fun i hi => ⟨fun q => q.1, fun q => ⟨q, h2 i q hi⟩⟩) (fun _ _ _ => rfl)
          rw [s2] at s
          grind
        · have rj := hr j hj q.1
          rcases Int.lt_or_le (r j) c with y | y
          · refine Or.inl ⟨q.1, q.2.1, ?_⟩
            rcases h3 with y2 | y2
            · omega
            · rcases Int.lt_or_le c (d j) with y3 | y3
              · exact absurd (q.2.1 (c - 1) (by omega) (by omega)) y2
              · exact y3
          · exact Or.inr ⟨q.1, y, q.2.2⟩
      · rw [sp_f z]
        have i1 := ih e (by omega)
        have s : sp (fun j => J j ∧ (∀ t : Nat, r j ≤ t → (t : Int) < d j → U t) ∧ d j ≤ ((e + 1 : Nat) : Int)) w n = sp (fun j => J j ∧ (∀ t : Nat, r j ≤ t → (t : Int) < d j → U t) ∧ d j ≤ (e : Int)) w n := sp_congr (fun j hj => ⟨fun q => ?_, fun q => ⟨q.1, q.2.1, by omega⟩⟩) (fun _ _ _ => rfl)
        · rw [s]; exact i1
        · refine ⟨q.1, q.2.1, ?_⟩
          have rj := hr j hj q.1
          rcases Int.lt_or_le e (d j) with y | y
          · exact absurd (q.2.1 e (by omega) y) z
          · exact y
