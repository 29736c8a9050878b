/-! the Planner: workOffAt -/
/-- a job's end -/
def En (n : Nat) (r w : Nat → Int) (pl : Nat → Nat) (x : Nat → Rat) (j : Nat) (y : Rat) : Prop :=
  ∃ t p : Nat, t < 200 ∧ p < n ∧ pl p = j ∧ 0 < edf n pl r w x t j ∧ edf n pl r w x (t + 1) j = 0 ∧ y = (t : Rat) + min (cum (fun j => r j ≤ (t : Int)) (edf n pl r w x t) pl (p + 1)) (x t) / x t
/-- who works at a time -/
def Wk (n : Nat) (r w : Nat → Int) (pl : Nat → Nat) (x : Nat → Rat) (t : Nat) (v : Int) : Prop :=
  (x t = 0 ∧ v = -1) ∨ (0 < x t ∧ ∃ p : Nat, p < n ∧ v = pl p ∧ min (cum (fun j => r j ≤ (t : Int)) (edf n pl r w x t) pl p) (x t) = 0 ∧ 0 < min (cum (fun j => r j ≤ (t : Int)) (edf n pl r w x t) pl (p + 1)) (x t))
section PLAN6
variable {g : GG} {D D0 : DD} {n a : Nat} {r d w : Nat → Int} {pl : Nat → Nat}
theorem groupOf_ok {i : Nat} (hi : i < 12) : CI g M_Pl_groupOf [vR 457, vI i] D (fun y D' => D' = D ∧ y = D 461 i) :=
  CI.intro mc_Pl_groupOf (Nat.le_of_ble_eq_true rfl) rfl (s_Pl_groupOf_0 ⟨fun q => by omega, fun _ => ⟨fun q => by omega, fun _ => ⟨by omega, retI ⟨rfl, rfl⟩⟩⟩⟩)
/-- what working off a time leaves alone -/
def FO (a t : Nat) (D D' : DD) : Prop := (∀ c, c ≠ 464 → c ≠ a + 5 → (c < a + 131 ∨ a + 191 ≤ c) → D' c = D c) ∧ ∀ u : Int, u ≠ t → D' (a + 5) u = D (a + 5) u
theorem FO.rf {a t : Nat} {D : DD} : FO a t D D := ⟨fun _ _ _ _ => rfl, fun _ _ => rfl⟩
theorem FO.tr {a t : Nat} {D D' D'' : DD} (h : FO a t D D') (h' : FO a t D' D'') : FO a t D D'' := ⟨fun c h1 h2 h3 => (h'.1 c h1 h2 h3).trans (h.1 c h1 h2 h3), fun u hu => (h'.2 u hu).trans (h.2 u hu)⟩
/-- the state at a place: gi the group, t the time, R what was left, S its speed -/
def WA (n a : Nat) (pl : Nat → Nat) (el : Nat → Prop) (S : Rat) (R : Nat → Rat) (T : Nat → Rat) (Tg : Rat) (t : Nat) (D0 D : DD) (p : Nat) (used : Int) : Prop :=
  FO a t D0 D ∧ (used : Rat) = min (cum el R pl p) S * Tg ∧
  (∀ q, q < n → (D 464 (pl q) : Rat) = (if q < p then nx n pl el S R (pl q) else R (pl q)) * T (pl q)) ∧
  (∀ q, q < n → q < p → 0 < R (pl q) → nx n pl el S R (pl q) = 0 → Fq D (a + 131 + 5 * pl q) ((t : Rat) + min (cum el R pl (q + 1)) S / S)) ∧
  (∀ q, q < n → (p ≤ q ∨ ¬ (0 < R (pl q) ∧ nx n pl el S R (pl q) = 0)) → ∀ c, a + 131 + 5 * pl q ≤ c → c < a + 136 + 5 * pl q → D c = D0 c) ∧
  (0 < used → ∃ q, q < n ∧ D (a + 5) t = pl q ∧ min (cum el R pl q) S = 0 ∧ 0 < min (cum el R pl (q + 1)) S)
theorem WA.full {el : Nat → Prop} {S : Rat} {R T : Nat → Rat} {Tg : Rat} {t p : Nat} {used : Int} (hpl : Pl n d pl) (hR : ∀ j, j < n → 0 ≤ R j) (h : WA n a pl el S R T Tg t D0 D p used) (hp : p ≤ n) (hs : S ≤ cum el R pl p) : WA n a pl el S R T Tg t D0 D n used := by
  obtain ⟨h1, h2, h3, h4, h5, h6⟩ := h
  have c : ∀ q, p ≤ q → q ≤ n → min (cum el R pl q) S = S := fun q q1 q2 => by
    have := cum_mono (el := el) hpl hR q1 q2
    grind
  have e : ∀ q, p ≤ q → q < n → nx n pl el S R (pl q) = R (pl q) := fun q q1 q2 => by
    rw [nx_at hpl q2, c q q1 (by omega), c (q + 1) (by omega) (by omega)]
    grind
  refine ⟨h1, ?_, fun q hq => ?_, fun q hq _ r0 z => ?_, fun q hq z => h5 q hq ?_, h6⟩
  · rw [h2, c p (Nat.le_refl p) hp, c n hp (Nat.le_refl n)]
  · rw [h3 q hq, if_pos hq]
    split
    · rfl
    · rw [e q (by omega) hq]
  · rcases Nat.lt_or_ge q p with y | y
    · exact h4 q hq y r0 z
    · rw [e q y hq] at z
      rw [z] at r0
      exact absurd r0 Rat.lt_irrefl
  · rcases Nat.lt_or_ge q p with y | y
    · rcases z with z | z
      · omega
      · exact Or.inr z
    · exact Or.inl y
end PLAN6
