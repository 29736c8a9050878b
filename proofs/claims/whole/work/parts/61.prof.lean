/-! a profile's steps -/
/-- from time f up to m the steps are the runs of x -/
def Runs (x : Nat → Rat) (f m n : Nat) (b e : Nat → Nat) (rt : Nat → Rat) : Prop :=
  (n = 0 → m ≤ f) ∧ (0 < n → b 0 = f ∧ e (n - 1) = m) ∧ (∀ i, i < n → b i < e i ∧ ∀ t, b i ≤ t → t < e i → x t = rt i) ∧ ∀ i, i + 1 < n → e i = b (i + 1) ∧ rt i ≠ rt (i + 1)
section PROF
variable {x : Nat → Rat} {f m m2 n n' : Nat} {b e b' e' : Nat → Nat} {rt rt' : Nat → Rat} {s : Rat}
theorem Runs.nil (h : m ≤ f) : Runs x f m 0 b e rt := ⟨fun _ => h, fun h => by omega, fun i h => by omega, fun i h => by omega⟩
/-- the last step gets longer -/
theorem Runs.long (h : Runs x f m n b e rt) (hn : 0 < n) (hm : m < m2) (hx : ∀ t, m ≤ t → t < m2 → x t = s) (hs : rt (n - 1) = s) (he : ∀ i, i < n → e' i = if i = n - 1 then m2 else e i) : Runs x f m2 n b e' rt := by
  obtain ⟨h1, h2, h3, h4⟩ := h
  have h2 := h2 hn
  refine ⟨fun q => by omega, fun _ => ⟨h2.1, by rw [he (n - 1) (by omega), if_pos rfl]⟩, fun i hi => ?_, fun i hi => ?_⟩
  · have a := h3 i hi
    rw [he i hi]
    split
    · next q =>
      subst q
      refine ⟨by omega, fun t t1 t2 => ?_⟩
      rcases Nat.lt_or_ge t m with y | y
      · exact a.2 t t1 (by omega)
      · rw [hx t y t2, hs]
    · exact a
  · rw [he i (by omega), if_neg (by omega)]
    exact h4 i hi
/-- one step more -/
theorem Runs.more (h : Runs x f m n b e rt) (hf : n = 0 → m = f) (hm : m < m2) (hx : ∀ t, m ≤ t → t < m2 → x t = s) (hs : 0 < n → rt (n - 1) ≠ s) (hb : ∀ i, i ≤ n → b' i = if i = n then m else b i) (he : ∀ i, i ≤ n → e' i = if i = n then m2 else e i) (hr : ∀ i, i ≤ n → rt' i = if i = n then s else rt i) : Runs x f m2 (n + 1) b' e' rt' := by
  obtain ⟨h1, h2, h3, h4⟩ := h
  refine ⟨fun q => by omega, fun _ => ⟨?_, ?_⟩, fun i hi => ?_, fun i hi => ?_⟩
  · rw [hb 0 (by omega)]
    split
    · next q => exact hf q.symm
    · exact (h2 (by omega)).1
  · rw [show n + 1 - 1 = n by omega, he n (Nat.le_refl n), if_pos rfl]
  · rw [hb i (by omega), he i (by omega), hr i (by omega)]
    split
    · exact ⟨hm, hx⟩
    · exact h3 i (by omega)
  · have q1 := he i (by omega)
    have q2 := hr i (by omega)
    rw [if_neg (by omega)] at q1 q2
    have q3 := hb (i + 1) (by omega)
    have q4 := hr (i + 1) (by omega)
    rw [q1, q2, q3, q4]
    rcases Nat.lt_or_ge (i + 1) n with z | z
    · rw [if_neg (by omega), if_neg (by omega)]
      exact h4 i z
    · rw [if_pos (by omega), if_pos (by omega)]
      have a := h2 (by omega)
      rw [show n - 1 = i by omega] at a hs
      exact ⟨a.2, hs (by omega)⟩
theorem Runs.pos (h : Runs x f m n b e rt) : ∀ i, i < n → f ≤ b i ∧ e i ≤ m := by
  obtain ⟨h1, h2, h3, h4⟩ := h
  have up : ∀ i, i < n → f ≤ b i := by
    intro i
    induction i with
    | zero => intro hi; have := h2 hi; omega
    | succ i ih => intro hi; have := ih (by omega); have := h4 i hi; have := h3 i (by omega); omega
  have down : ∀ k i, i + k + 1 = n → e i ≤ m := by
    intro k
    induction k with
    | zero => intro i hi; have := h2 (by omega); rw [show n - 1 = i by omega] at this; omega
    | succ k ih => intro i hi; have := ih (i + 1) (by omega); have := h4 i (by omega); have := h3 (i + 1) (by omega); omega
  exact fun i hi => ⟨up i hi, down (n - 1 - i) i (by omega)⟩
/-- the steps of a profile are told by it -/
theorem Runs.unique (h : Runs x f m n b e rt) (h' : Runs x f m n' b' e' rt') (hx : ∀ t, t < m → True) : n = n' ∧ ∀ i, i < n → b i = b' i ∧ e i = e' i ∧ rt i = rt' i := by
  have step : ∀ {n n' : Nat} {b e b' e' : Nat → Nat} {rt rt' : Nat → Rat}, Runs x f m n b e rt → Runs x f m n' b' e' rt' → ∀ i, i < n → i < n' ∧ b i = b' i ∧ rt i = rt' i ∧ e i ≤ e' i ∧ (e' i ≤ e i) := by
    have half : ∀ {n n' : Nat} {b e b' e' : Nat → Nat} {rt rt' : Nat → Rat}, Runs x f m n b e rt → Runs x f m n' b' e' rt' → ∀ i, i < n → i < n' → b i = b' i → rt i = rt' i → e i ≤ e' i := by
      intro n n' b e b' e' rt rt' h h' i hi hi' eb er
      rcases Nat.lt_or_ge (e' i) (e i) with y | y
      · exfalso
        have p := (h.pos i hi).2
        have hl : i + 1 < n' := by
          rcases Nat.lt_or_ge (i + 1) n' with z | z
          · exact z
          · have := h'.2.1 (by omega)
            rw [show n' - 1 = i by omega] at this
            omega
        have a := h'.2.2.2 i hl
        have b1 := h'.2.2.1 (i + 1) hl
        have c := b1.2 (b' (i + 1)) (Nat.le_refl _) b1.1
        have b2 := (h'.2.2.1 i hi').1
        have d := (h.2.2.1 i hi).2 (b' (i + 1)) (by omega) (by omega)
        exact a.2 (by rw [← er, ← d, c])
      · exact y
    intro n n' b e b' e' rt rt' h h' i
    induction i with
    | zero =>
      intro hi
      have a := h.2.1 hi
      have b0 := (h.2.2.1 0 hi)
      have pm := (h.pos 0 hi).2
      have hn' : 0 < n' := by
        rcases Nat.eq_zero_or_pos n' with z | z
        · have := h'.1 z; omega
        · exact z
      have a' := h'.2.1 hn'
      have b0' := (h'.2.2.1 0 hn')
      have eb : b 0 = b' 0 := by omega
      have er : rt 0 = rt' 0 := by rw [← b0.2 (b 0) (Nat.le_refl _) b0.1, ← b0'.2 (b 0) (by omega) (by omega)]
      exact ⟨hn', eb, er, half h h' 0 hi hn' eb er, half h' h 0 hn' hi eb.symm er.symm⟩
    | succ i ih =>
      intro hi
      obtain ⟨i1, i2, i3, i4, i5⟩ := ih (by omega)
      have a := h.2.2.2 i hi
      have b0 := h.2.2.1 (i + 1) hi
      have pm := (h.pos (i + 1) hi).2
      have hn' : i + 1 < n' := by
        rcases Nat.lt_or_ge (i + 1) n' with z | z
        · exact z
        · have := h'.2.1 (by omega)
          rw [show n' - 1 = i by omega] at this
          omega
      have a' := h'.2.2.2 i hn'
      have b0' := h'.2.2.1 (i + 1) hn'
      have eb : b (i + 1) = b' (i + 1) := by omega
      have er : rt (i + 1) = rt' (i + 1) := by rw [← b0.2 (b (i + 1)) (Nat.le_refl _) b0.1, ← b0'.2 (b (i + 1)) (by omega) (by omega)]
      exact ⟨hn', eb, er, half h h' _ hi hn' eb er, half h' h _ hn' hi eb.symm er.symm⟩
  have hn : n = n' := by
    rcases Nat.lt_trichotomy n n' with y | y | y
    · have := (step h' h n y).1; omega
    · exact y
    · have := (step h h' n' y).1; omega
  exact ⟨hn, fun i hi => by have := step h h' i hi; exact ⟨this.2.1, by omega, this.2.2.1⟩⟩
/-- sums over steps are sums over times -/
theorem Runs.sum (h : Runs x f m n b e rt) (hm : n = 0 → m = f) {y : Rat → Rat} (hx0 : ∀ t, t < f → y (x t) = 0) : su (fun t => y (x t)) m = su (fun i => y (rt i) * (((e i : Int) - (b i : Int) : Int) : Rat)) n := by
  obtain ⟨h1, h2, h3, h4⟩ := h
  have z0 : su (fun t => y (x t)) f = 0 := by
    have e1 : su (fun t => y (x t)) f = su (fun _ => 0) f := su_congr hx0
    have e2 := sp_c (P := fun _ => True) (c := 0) (n := f)
    rw [sp_all (fun _ _ => trivial), Rat.zero_mul] at e2
    rw [e1, e2]
  have str : ∀ (k a : Nat) (s : Rat), (∀ t, a ≤ t → t < a + k → x t = s) → su (fun t => y (x t)) (a + k) = su (fun t => y (x t)) a + y s * ((k : Int) : Rat) := by
    intro k
    induction k with
    | zero => intro a s _; show su _ a = _; rw [show (((0 : Nat) : Int) : Rat) = 0 from rfl, Rat.mul_zero, Rat.add_zero]
    | succ k ih =>
      intro a s hx
      show su _ (a + k) + y (x (a + k)) = _
      rw [ih a s (fun t t1 t2 => hx t t1 (by omega)), hx (a + k) (by omega) (by omega), show ((k + 1 : Nat) : Int) = (k : Int) + 1 by omega, Rat.intCast_add]
      have : ((1 : Int) : Rat) = 1 := rfl
      rw [this]
      grind
  have key : ∀ i, i < n → su (fun t => y (x t)) (e i) = su (fun i => y (rt i) * (((e i : Int) - (b i : Int) : Int) : Rat)) (i + 1) := by
    intro i
    induction i with
    | zero =>
      intro hi
      have a := h3 0 hi
      have b0 := h2 hi
      have s1 := str (e 0 - b 0) (b 0) (rt 0) (fun t t1 t2 => a.2 t t1 (by omega))
      rw [show b 0 + (e 0 - b 0) = e 0 by omega, b0.1, z0] at s1
      rw [s1]
      show 0 + y (rt 0) * _ = 0 + y (rt 0) * _
      rw [show ((e 0 - f : Nat) : Int) = (e 0 : Int) - (b 0 : Int) by omega]
    | succ i ih =>
      intro hi
      have a := h3 (i + 1) hi
      have c := h4 i hi
      have i1 := ih (by omega)
      have s1 := str (e (i + 1) - b (i + 1)) (b (i + 1)) (rt (i + 1)) (fun t t1 t2 => a.2 t t1 (by omega))
      rw [show b (i + 1) + (e (i + 1) - b (i + 1)) = e (i + 1) by omega, ← c.1, i1] at s1
      rw [s1]
      show su _ (i + 1) + _ = su _ (i + 1) + _
      rw [show ((e (i + 1) - e i : Nat) : Int) = (e (i + 1) : Int) - (b (i + 1) : Int) by omega]
  rcases Nat.eq_zero_or_pos n with q | q
  · subst q
    rw [hm rfl, z0]
    rfl
  · have := key (n - 1) (by omega)
    rw [(h2 q).2, show n - 1 + 1 = n by omega] at this
    exact this
/-- releases and deadlines between two times, outside the first -/
def evs (n : Nat) (r d : Nat → Int) (f t : Int) : Int := si (fun j => (if f < r j ∧ r j < t then 1 else 0) + (if f < d j ∧ d j < t then 1 else 0)) n
theorem si_le' {f h : Nat → Int} : ∀ {n : Nat}, (∀ i, i < n → f i ≤ h i) → si f n ≤ si h n
  | 0, _ => Int.le_refl _
  | n + 1, q => by
    show si f n + f n ≤ si h n + h n
    have h1 := si_le' (n := n) (fun i hi => q i (by omega))
    have h2 := q n (by omega)
    omega
theorem si_lt' {f h : Nat → Int} {k : Nat} : ∀ {n : Nat}, (∀ i, i < n → f i ≤ h i) → k < n → f k + 1 ≤ h k → si f n + 1 ≤ si h n
  | 0, _, hk, _ => by omega
  | n + 1, q, hk, hl => by
    show si f n + f n + 1 ≤ si h n + h n
    rcases (show k = n ∨ k < n by omega) with y | y
    · subst y
      have := si_le' (f := f) (h := h) (n := k) (fun i hi => q i (by omega))
      omega
    · have h1 := si_lt' (n := n) (fun i hi => q i (by omega)) y hl
      have h2 := q n (by omega)
      omega
theorem evs_mono {n : Nat} {r d : Nat → Int} {f t t' : Int} (h : t ≤ t') : evs n r d f t ≤ evs n r d f t' := si_le' fun j hj => by
  show (if f < r j ∧ r j < t then (1 : Int) else 0) + (if f < d j ∧ d j < t then 1 else 0) ≤ (if f < r j ∧ r j < t' then (1 : Int) else 0) + (if f < d j ∧ d j < t' then 1 else 0)
  have a : (if f < r j ∧ r j < t then (1 : Int) else 0) ≤ (if f < r j ∧ r j < t' then (1 : Int) else 0) := by
    split
    · rw [if_pos (by omega)]; omega
    · split <;> omega
  have b : (if f < d j ∧ d j < t then (1 : Int) else 0) ≤ (if f < d j ∧ d j < t' then (1 : Int) else 0) := by
    split
    · rw [if_pos (by omega)]; omega
    · split <;> omega
  omega
/-- an event -/
def Evt (n : Nat) (r d : Nat → Int) (t : Int) : Prop := ∃ j, j < n ∧ (r j = t ∨ d j = t)
theorem evs_more {n : Nat} {r d : Nat → Int} {f t t' : Int} (h : Evt n r d t) (hf : f < t) (ht : t < t') : evs n r d f t + 1 ≤ evs n r d f t' := by
  obtain ⟨j, hj, h⟩ := h
  have two : ∀ i, (if f < r i ∧ r i < t then (1 : Int) else 0) ≤ (if f < r i ∧ r i < t' then (1 : Int) else 0) ∧ (if f < d i ∧ d i < t then (1 : Int) else 0) ≤ (if f < d i ∧ d i < t' then (1 : Int) else 0) := by
    intro i
    constructor
    · split
      · rw [if_pos (by omega)]; omega
      · split <;> omega
    · split
      · rw [if_pos (by omega)]; omega
      · split <;> omega
  refine si_lt' (k := j) (fun i hi => by have := two i; show _ + _ ≤ _ + _; omega) hj ?_
  have a := two j
  show _ + _ + 1 ≤ _ + _
  rcases h with y | y
  · have e1 : (if f < r j ∧ r j < t then (1 : Int) else 0) = 0 := if_neg (by omega)
    have e2 : (if f < r j ∧ r j < t' then (1 : Int) else 0) = 1 := if_pos (by omega)
    rw [e1, e2]
    omega
  · have e1 : (if f < d j ∧ d j < t then (1 : Int) else 0) = 0 := if_neg (by omega)
    have e2 : (if f < d j ∧ d j < t' then (1 : Int) else 0) = 1 := if_pos (by omega)
    rw [e1, e2]
    omega
theorem evs_nn {n : Nat} {r d : Nat → Int} {f t : Int} : 0 ≤ evs n r d f t := si_nn fun j _ => by
  show 0 ≤ (if f < r j ∧ r j < t then (1 : Int) else 0) + (if f < d j ∧ d j < t then 1 else 0)
  split <;> split <;> omega
theorem si_add' {f h : Nat → Int} : ∀ {n : Nat}, si (fun i => f i + h i) n = si f n + si h n
  | 0 => rfl
  | n + 1 => by
    show si (fun i => f i + h i) n + (f n + h n) = si f n + f n + (si h n + h n)
    rw [si_add']
    omega
theorem evs_22 {n : Nat} {r d : Nat → Int} {f t : Int} (hn : n ≤ 12) (hf : ∃ j, j < n ∧ r j = f) (ht : ∃ j, j < n ∧ d j = t) : evs n r d f t ≤ 22 := by
  obtain ⟨j1, a1, a2⟩ := hf
  obtain ⟨j2, b1, b2⟩ := ht
  unfold evs
  rw [si_add']
  have h1 := si_lt' (f := fun j => if f < r j ∧ r j < t then (1 : Int) else 0) (h := fun _ => 1) (k := j1) (n := n) (fun i hi => by show (if f < r i ∧ r i < t then (1 : Int) else 0) ≤ 1; split <;> omega) a1 (by show (if f < r j1 ∧ r j1 < t then (1 : Int) else 0) + 1 ≤ 1; rw [if_neg (by omega)]; omega)
  have h2 := si_lt' (f := fun j => if f < d j ∧ d j < t then (1 : Int) else 0) (h := fun _ => 1) (k := j2) (n := n) (fun i hi => by show (if f < d i ∧ d i < t then (1 : Int) else 0) ≤ 1; split <;> omega) b1 (by show (if f < d j2 ∧ d j2 < t then (1 : Int) else 0) + 1 ≤ 1; rw [if_neg (by omega)]; omega)
  have h3 := si_le (f := fun _ => (1 : Int)) (B := 1) (n := n) (fun _ _ => Int.le_refl _)
  omega
end PROF
