/-! work by deadlines, a time of 1 after another -/
/-- places in the order of deadlines, then of numbers -/
def Pl (n : Nat) (d : Nat → Int) (pl : Nat → Nat) : Prop := (∀ q, q < n → pl q < n) ∧ (∀ q q', q < q' → q' < n → d (pl q) < d (pl q') ∨ (d (pl q) = d (pl q') ∧ pl q < pl q')) ∧ ∀ j, j < n → ∃ q, q < n ∧ pl q = j
theorem Pl.inj {n : Nat} {d : Nat → Int} {pl : Nat → Nat} (h : Pl n d pl) {q q' : Nat} (hq : q < n) (hq' : q' < n) (e : pl q = pl q') : q = q' := by
  rcases Nat.lt_trichotomy q q' with y | y | y
  · have := h.2.1 q q' y hq'; rw [e] at this; omega
  · exact y
  · have := h.2.1 q' q y hq; rw [e] at this; omega
/-- what is left of the jobs that may be worked on, at the first p places -/
noncomputable def cum (el : Nat → Prop) (R : Nat → Rat) (pl : Nat → Nat) (p : Nat) : Rat := sp (fun q => el (pl q)) (fun q => R (pl q)) p
/-- what is left behind a time in which s is done -/
noncomputable def nx (n : Nat) (pl : Nat → Nat) (el : Nat → Prop) (s : Rat) (R : Nat → Rat) (j : Nat) : Rat := R j - sp (fun q => pl q = j) (fun q => min (cum el R pl (q + 1)) s - min (cum el R pl q) s) n
section EDF
variable {n : Nat} {d r w : Nat → Int} {pl : Nat → Nat} {el el' : Nat → Prop} {R R' : Nat → Rat} {s : Rat}
theorem sp_single {P : Nat → Prop} {f : Nat → Rat} {k : Nat} (hk : k < n) (h : ∀ i, i < n → (P i ↔ i = k)) : sp P f n = f k := by
  have h1 := sp_cut (P := P) (f := f) (show k + 1 ≤ n by omega)
  have e1 : sp P f k = 0 := sp_no (fun i hi q => by have := (h i (by omega)).mp q; omega)
  have e2 : sp (fun i => k + 1 ≤ i ∧ P i) f n = 0 := sp_no (fun i hi q => by have := (h i hi).mp q.2; omega)
  rw [sp_t ((h k hk).mpr rfl), e1, e2] at h1
  rw [h1]
  grind
theorem nx_at (h : Pl n d pl) {p : Nat} (hp : p < n) : nx n pl el s R (pl p) = R (pl p) - (min (cum el R pl (p + 1)) s - min (cum el R pl p) s) := by
  unfold nx
  rw [sp_single (k := p) hp (fun i hi => ⟨fun e => h.inj hi hp e, fun e => by rw [e]⟩)]
theorem cum_0 : cum el R pl 0 = 0 := rfl
theorem cum_t {p : Nat} (h : el (pl p)) : cum el R pl (p + 1) = cum el R pl p + R (pl p) := sp_t h
theorem cum_f {p : Nat} (h : ¬ el (pl p)) : cum el R pl (p + 1) = cum el R pl p := sp_f (P := fun q => el (pl q)) h
theorem cum_nn (hpl : Pl n d pl) (hR : ∀ j, j < n → 0 ≤ R j) {p : Nat} (hp : p ≤ n) : 0 ≤ cum el R pl p := sp_nn (fun i hi _ => hR _ (hpl.1 i (by omega)))
theorem cum_mono (hpl : Pl n d pl) (hR : ∀ j, j < n → 0 ≤ R j) {p p' : Nat} (h : p ≤ p') (hp : p' ≤ n) : cum el R pl p ≤ cum el R pl p' := by
  unfold cum
  rw [sp_cut h]
  have := sp_nn (P := fun i => p ≤ i ∧ el (pl i)) (f := fun q => R (pl q)) (n := p') (fun i hi _ => hR _ (hpl.1 i (by omega)))
  grind
/-- a part is within what is left -/
theorem part_bd (hpl : Pl n d pl) (hR : ∀ j, j < n → 0 ≤ R j) {p : Nat} (hp : p < n) : 0 ≤ min (cum el R pl (p + 1)) s - min (cum el R pl p) s ∧ min (cum el R pl (p + 1)) s - min (cum el R pl p) s ≤ R (pl p) := by
  have h0 := hR _ (hpl.1 p hp)
  rcases Classical.em (el (pl p)) with z | z
  · rw [cum_t z]
    grind
  · rw [cum_f z]
    grind
theorem nx_nn (hpl : Pl n d pl) (hR : ∀ j, j < n → 0 ≤ R j) : ∀ j, j < n → 0 ≤ nx n pl el s R j := by
  intro j hj
  obtain ⟨p, hp, rfl⟩ := hpl.2.2 j hj
  rw [nx_at hpl hp]
  have := part_bd (el := el) (s := s) hpl hR hp
  grind
theorem nx_le (hpl : Pl n d pl) (hR : ∀ j, j < n → 0 ≤ R j) : ∀ j, j < n → nx n pl el s R j ≤ R j := by
  intro j hj
  obtain ⟨p, hp, rfl⟩ := hpl.2.2 j hj
  rw [nx_at hpl hp]
  have := part_bd (el := el) (s := s) hpl hR hp
  grind
theorem nx_off (hpl : Pl n d pl) {j : Nat} (hj : j < n) (h : ¬ el j) : nx n pl el s R j = R j := by
  obtain ⟨p, hp, rfl⟩ := hpl.2.2 j hj
  rw [nx_at hpl hp, cum_f h]
  grind
/-- sums over jobs are sums over places -/
theorem sp_ins {P Q : Nat → Prop} {f : Nat → Rat} {k : Nat} (hk : k < n) (hP : ¬ P k) (h : ∀ i, i < n → (Q i ↔ (P i ∨ i = k))) : sp Q f n = sp P f n + f k := by
  rw [sp_split (P := Q) (P' := P) (R := fun i => i = k) h (fun i hi q1 q2 => hP (by rw [← q2]; exact q1)), sp_single (P := fun i => i = k) hk (fun i _ => Iff.rfl)]
theorem sp_pl {P : Nat → Prop} {f : Nat → Rat} (hpl : Pl n d pl) : sp P f n = sp (fun q => P (pl q)) (fun q => f (pl q)) n := by
  have key : ∀ m, m ≤ n → sp (fun q => P (pl q)) (fun q => f (pl q)) m = sp (fun j => P j ∧ ∃ q, q < m ∧ pl q = j) f n := by
    intro m
    induction m with
    | zero =>
      intro _
      rw [sp_0, sp_no (P := fun j => P j ∧ ∃ q, q < 0 ∧ pl q = j)]
      intro i hi q
      obtain ⟨_, q, h, _⟩ := q
      omega
    | succ m ih =>
      intro hm
      have i1 := ih (by omega)
      have hinj : ∀ q, q < m → pl q ≠ pl m := fun q hq e => by have := hpl.inj (by omega) (by omega) e; omega
      rcases Classical.em (P (pl m)) with z | z
      · rw [sp_t (P := fun q => P (pl q)) z, i1]
        refine (sp_ins (hpl.1 m (by omega)) (fun q => ?_) (fun i hi => ⟨fun q => ?_, fun q => ?_⟩)).symm
        · obtain ⟨_, q, h1, h2⟩ := q
          exact hinj q h1 h2
        · obtain ⟨q0, q, h1, h2⟩ := q
          rcases (show q = m ∨ q < m by omega) with y | y
          · exact Or.inr (by rw [← h2, y])
          · exact Or.inl ⟨q0, q, y, h2⟩
        · rcases q with ⟨q0, q, h1, h2⟩ | q
          · exact ⟨q0, q, by omega, h2⟩
          · exact ⟨by rw [q]; exact z, m, by omega, q.symm⟩
      · rw [sp_f (P := fun q => P (pl q)) z, i1]
        refine sp_congr (fun i hi => ⟨fun q => ?_, fun q => ?_⟩) (fun _ _ _ => rfl)
        · obtain ⟨q0, q, h1, h2⟩ := q
          exact ⟨q0, q, by omega, h2⟩
        · obtain ⟨q0, q, h1, h2⟩ := q
          rcases (show q = m ∨ q < m by omega) with y | y
          · rw [y] at h2
            rw [← h2] at q0
            exact absurd q0 z
          · exact ⟨q0, q, y, h2⟩
  rw [key n (Nat.le_refl n)]
  exact sp_congr (fun i hi => ⟨fun q => ⟨q, hpl.2.2 i hi⟩, fun q => q.1⟩) (fun _ _ _ => rfl)
theorem cum_all (hpl : Pl n d pl) : cum el R pl n = sp el R n := (sp_pl hpl).symm
/-- the places up to a deadline -/
theorem pl_pre (hpl : Pl n d pl) (D : Int) : ∃ m, m ≤ n ∧ ∀ q, q < n → (q < m ↔ d (pl q) ≤ D) := by
  have key : ∀ k, k ≤ n → ∃ m, m ≤ k ∧ ∀ q, q < k → (q < m ↔ d (pl q) ≤ D) := by
    intro k
    induction k with
    | zero => intro _; exact ⟨0, by omega, fun q hq => by omega⟩
    | succ k ih =>
      intro hk
      obtain ⟨m, h1, h2⟩ := ih (by omega)
      rcases Int.lt_or_le D (d (pl k)) with y | y
      · refine ⟨m, by omega, fun q hq => ?_⟩
        rcases (show q = k ∨ q < k by omega) with z | z
        · subst z; omega
        · exact h2 q z
      · refine ⟨k + 1, by omega, fun q hq => ⟨fun _ => ?_, fun _ => hq⟩⟩
        rcases (show q = k ∨ q < k by omega) with z | z
        · rw [z]; exact y
        · have := hpl.2.1 q k z (by omega)
          omega
  exact key n (Nat.le_refl n)
/-- what is done of the jobs up to a deadline in a time -/
theorem nx_pre (hpl : Pl n d pl) {P : Nat → Prop} {D : Int} {m : Nat} (hm : m ≤ n) (hpre : ∀ q, q < n → (q < m ↔ d (pl q) ≤ D)) (hP : ∀ j, j < n → el j → P j) (hs : 0 ≤ s) :
    sp (fun j => P j ∧ d j ≤ D) (nx n pl el s R) n = sp (fun j => P j ∧ d j ≤ D) R n - min (cum el R pl m) s := by
  have key : ∀ k, k ≤ n → sp (fun q => P (pl q)) (fun q => nx n pl el s R (pl q)) k = sp (fun q => P (pl q)) (fun q => R (pl q)) k - min (cum el R pl k) s := by
    intro k
    induction k with
    | zero => intro _; rw [sp_0, sp_0, cum_0]; grind
    | succ k ih =>
      intro hk
      have i1 := ih (by omega)
      rcases Classical.em (P (pl k)) with z | z
      · rw [sp_t (P := fun q => P (pl q)) z, sp_t (P := fun q => P (pl q)) z, i1, nx_at hpl (by omega)]
        grind
      · rw [sp_f (P := fun q => P (pl q)) z, sp_f (P := fun q => P (pl q)) z, i1, cum_f (fun y => z (hP _ (hpl.1 k (by omega)) y))]
  have cut : ∀ f : Nat → Rat, sp (fun j => P j ∧ d j ≤ D) f n = sp (fun q => P (pl q)) (fun q => f (pl q)) m := by
    intro f
    rw [sp_pl hpl, sp_cut (P := fun q => P (pl q) ∧ d (pl q) ≤ D) hm, sp_no (P := fun i => m ≤ i ∧ P (pl i) ∧ d (pl i) ≤ D) (fun i hi q => by have := hpre i hi; omega), Rat.add_zero]
    exact sp_congr (fun i hi => ⟨fun q => q.1, fun q => ⟨q, (hpre i (by omega)).mp hi⟩⟩) (fun _ _ _ => rfl)
  rw [cut, cut, key m hm]
theorem cum_pre (hpl : Pl n d pl) {D : Int} {m : Nat} (hm : m ≤ n) (hpre : ∀ q, q < n → (q < m ↔ d (pl q) ≤ D)) : cum el R pl m = sp (fun j => el j ∧ d j ≤ D) R n := by
  rw [sp_pl hpl, sp_cut (P := fun q => el (pl q) ∧ d (pl q) ≤ D) hm, sp_no (P := fun i => m ≤ i ∧ el (pl i) ∧ d (pl i) ≤ D) (fun i hi q => by have := hpre i hi; omega), Rat.add_zero]
  exact sp_congr (fun i hi => ⟨fun q => ⟨q, (hpre i (by omega)).mp hi⟩, fun q => q.1⟩) (fun _ _ _ => rfl)
end EDF
