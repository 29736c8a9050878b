/-! groups taken one after another -/
def fre (gs : Nat → Int) (k : Int) (t : Nat) : Prop := gs t < 0 ∨ k ≤ gs t
def fin (gs : Nat → Int) (k : Int) (r d : Nat → Int) (a b : Nat) (j : Nat) : Prop := ∀ t : Nat, t < 200 → r j ≤ (t : Int) → (t : Int) < d j → fre gs k t → a ≤ t ∧ t < b
def unt (gj : Nat → Int) (k : Int) (j : Nat) : Prop := gj j < 0 ∨ k ≤ gj j
def PCert (n : Nat) (r d w : Nat → Int) (gs gj : Nat → Int) (G : Int) (W T : Int → Int) : Prop :=
  0 ≤ G ∧ (∀ j, j < n → -1 ≤ gj j ∧ gj j < G) ∧ (∀ t, t < 200 → -1 ≤ gs t ∧ gs t < G) ∧ (∀ k, 0 ≤ k → k < G → 0 < W k ∧ 0 < T k) ∧
  (∀ (j t : Nat), j < n → t < 200 → r j ≤ (t : Int) → (t : Int) < d j → 0 ≤ gj j → 0 ≤ gs t ∧ gs t ≤ gj j) ∧
  (∀ k, 0 ≤ k → k < G → (W k : Rat) = sp (fun j => gj j = k) (fun j => (w j : Rat)) n) ∧
  (∀ k, 0 ≤ k → k < G → (T k : Rat) = sp (fun t => gs t = k) (fun _ => 1) 200) ∧
  (∀ k, 0 ≤ k → k + 1 < G → W (k + 1) * T k ≤ W k * T (k + 1)) ∧
  (∀ k (a b : Nat), 0 ≤ k → k < G → a ≤ b → b ≤ 200 → sp (fun j => unt gj k j ∧ fin gs k r d a b j) (fun j => (w j : Rat)) n * (T k : Rat) ≤ (W k : Rat) * sp (fun t => a ≤ t ∧ fre gs k t) (fun _ => 1) b) ∧
  (∀ j, j < n → gj j < 0 → ∃ t : Nat, t < 200 ∧ r j ≤ (t : Int) ∧ (t : Int) < d j ∧ gs t < 0) ∧
  (∀ t : Nat, t + 1 < 200 → gs t ≠ gs (t + 1) → Evt n r d ((t + 1 : Nat) : Int)) ∧
  (0 < G → ∃ f0 t0 : Nat, f0 ≤ t0 ∧ t0 ≤ 200 ∧ (∀ t, t < 200 → gs t = G - 1 → f0 ≤ t ∧ t < t0) ∧ (∀ t, f0 ≤ t → t < t0 → 0 ≤ gs t) ∧ ∀ j, j < n → gj j = G - 1 → fin gs (G - 1) r d f0 t0 j) ∧
  G ≤ si (fun j => if 0 ≤ gj j then 1 else 0) n
section PCERT
variable {n : Nat} {r d w gs gj : Nat → Int} {G : Int} {W T : Int → Int}
theorem pc_start (win : ∀ j, j < n → 0 ≤ r j ∧ r j < d j ∧ d j ≤ 200) (hgs : ∀ t, t < 200 → gs t = -1) (hgj : ∀ j, j < n → gj j = -1) : PCert n r d w gs gj 0 W T := by
  refine ⟨by omega, fun j hj => by have := hgj j hj; omega, fun t ht => by have := hgs t ht; omega, fun k _ _ => by omega, fun j t hj _ _ _ q => by have := hgj j hj; omega, fun k _ _ => by omega, fun k _ _ => by omega, fun k _ _ => by omega, fun k a b _ _ => by omega, fun j hj _ => ?_, fun t ht q => ?_, fun q => by omega, si_nn fun j hj => ?_⟩
  · have := win j hj
    exact ⟨(r j).toNat, by omega, by omega, by omega, by have := hgs (r j).toNat (by omega); omega⟩
  · have a := hgs t (by omega)
    have b := hgs (t + 1) ht
    omega
  · show (0 : Int) ≤ if 0 ≤ gj j then 1 else 0
    split <;> omega
/-- when all jobs are taken -/
theorem pc_end (h : PCert n r d w gs gj G W T) (win : ∀ j, j < n → 0 ≤ r j ∧ r j < d j ∧ d j ≤ 200) (wp : ∀ j, j < n → 0 < w j) (all : ∀ j, j < n → 0 ≤ gj j) : Cert n r d w gs gj G W T := by
  obtain ⟨h0, h1, h2, h3, h4, h5, h6, h7, h8, _⟩ := h
  refine ⟨win, wp, fun j hj => ⟨all j hj, (h1 j hj).2⟩, h2, h3, fun j t hj ht a b => h4 j t hj ht a b (all j hj), h5, h6, h7, fun k a b k0 k1 hab hb => ?_⟩
  have e := h8 k a b k0 k1 hab hb
  have tp : (0 : Rat) ≤ (T k : Rat) := Rat.intCast_nonneg.mpr (by have := h3 k k0 k1; omega)
  refine Rat.le_trans (Rat.mul_le_mul_of_nonneg_right (sp_le (fun j hj q => ⟨⟨Or.inr q.1, fun t ht t1 t2 _ => by omega⟩, Rat.le_refl⟩) (fun j hj _ _ => Rat.intCast_nonneg.mpr (by have := wp j hj; omega))) tp) e
/-- a group more: the densest -/
theorem pc_step (h : PCert n r d w gs gj G W T) (win : ∀ j, j < n → 0 ≤ r j ∧ r j < d j ∧ d j ≤ 200) (wp : ∀ j, j < n → 0 < w j) {f t0 : Nat} {S : Nat → Prop} {W1 T1 : Int} (hft : f ≤ t0) (ht0 : t0 ≤ 200) (hT0 : 0 < T1) (hW0 : 0 < W1)
    (hT : (T1 : Rat) = sp (fun t => f ≤ t ∧ gs t < 0) (fun _ => 1) t0) (hS : ∀ j, j < n → S j → gj j < 0 ∧ fin gs G r d f t0 j) (hW : (W1 : Rat) = sp S (fun j => (w j : Rat)) n)
    (hmax : ∀ a b : Nat, a ≤ b → b ≤ 200 → sp (fun j => gj j < 0 ∧ fin gs G r d a b j) (fun j => (w j : Rat)) n * (T1 : Rat) ≤ (W1 : Rat) * sp (fun t => a ≤ t ∧ gs t < 0) (fun _ => 1) b)
    (hef : Evt n r d f) (het : Evt n r d t0) {gs' gj' : Nat → Int} {W' T' : Int → Int} (hgs : ∀ t, t < 200 → (f ≤ t ∧ t < t0 ∧ gs t < 0 → gs' t = G) ∧ (¬ (f ≤ t ∧ t < t0 ∧ gs t < 0) → gs' t = gs t)) (hgj : ∀ j, j < n → (S j → gj' j = G) ∧ (¬ S j → gj' j = gj j))
    (hW' : ∀ k, W' k = if k = G then W1 else W k) (hT' : ∀ k, T' k = if k = G then T1 else T k) : PCert n r d w gs' gj' (G + 1) W' T' := by
  obtain ⟨h0, h1, h2, h3, h4, h5, h6, h7, h8, h9, h10, h11, h12⟩ := h
  have wq : ∀ j, j < n → (0 : Rat) ≤ (w j : Rat) := fun j hj => Rat.intCast_nonneg.mpr (by have := wp j hj; omega)
  have Tq : (0 : Rat) < (T1 : Rat) := Rat.intCast_pos.mpr hT0
  -- all that lie within are taken
  have hall : ∀ j, j < n → gj j < 0 → fin gs G r d f t0 j → S j := by
    intro j hj q1 q2
    refine Classical.byContradiction fun z => ?_
    have a := hmax f t0 hft ht0
    rw [← hT] at a
    have b := Rat.le_of_mul_le_mul_right a Tq
    have c : sp (fun j => gj j < 0 ∧ fin gs G r d f t0 j) (fun j => (w j : Rat)) n = sp S (fun j => (w j : Rat)) n + sp (fun i => (gj i < 0 ∧ fin gs G r d f t0 i) ∧ ¬ S i) (fun j => (w j : Rat)) n :=
      sp_split (fun i hi => ⟨fun q => by rcases Classical.em (S i) with y | y; exact Or.inl y; exact Or.inr ⟨q, y⟩, fun q => by rcases q with q | q; exact hS i hi q; exact q.1⟩) (fun i hi q q' => q'.2 q)
    have e := sp_one (P := fun i => (gj i < 0 ∧ fin gs G r d f t0 i) ∧ ¬ S i) (f := fun j => (w j : Rat)) hj ⟨⟨q1, q2⟩, z⟩ (fun i hi _ => wq i hi)
    have wj : (0 : Rat) < (w j : Rat) := Rat.intCast_pos.mpr (wp j hj)
    rw [c, hW] at b
    grind
  have gsG : ∀ t, t < 200 → (gs' t = G ↔ (f ≤ t ∧ t < t0 ∧ gs t < 0)) := fun t ht => ⟨fun q => Classical.byContradiction fun z => by have := (hgs t ht).2 z; have := h2 t ht; omega, (hgs t ht).1⟩
  have gsk : ∀ t k, t < 200 → 0 ≤ k → k < G → (gs' t = k ↔ gs t = k) := fun t k ht k0 k1 => by
    rcases Classical.em (f ≤ t ∧ t < t0 ∧ gs t < 0) with z | z
    · have := (hgs t ht).1 z; omega
    · rw [(hgs t ht).2 z]
  have gjG : ∀ j, j < n → (gj' j = G ↔ S j) := fun j hj => ⟨fun q => Classical.byContradiction fun z => by have := (hgj j hj).2 z; have := h1 j hj; omega, (hgj j hj).1⟩
  have gjk : ∀ j k, j < n → 0 ≤ k → k < G → (gj' j = k ↔ gj j = k) := fun j k hj k0 k1 => by
    rcases Classical.em (S j) with z | z
    · have := (hgj j hj).1 z; have := (hS j hj z).1; omega
    · rw [(hgj j hj).2 z]
  have frek : ∀ t k, t < 200 → 0 ≤ k → k ≤ G → (fre gs' k t ↔ fre gs k t) := fun t k ht k0 k1 => by
    unfold fre
    rcases Classical.em (f ≤ t ∧ t < t0 ∧ gs t < 0) with z | z
    · have := (hgs t ht).1 z; omega
    · rw [(hgs t ht).2 z]
  have freG : ∀ t, t < 200 → (fre gs G t ↔ gs t < 0) := fun t ht => by have := h2 t ht; unfold fre; omega
  have untk : ∀ j k, j < n → 0 ≤ k → k ≤ G → (unt gj' k j ↔ unt gj k j) := fun j k hj k0 k1 => by
    unfold unt
    rcases Classical.em (S j) with z | z
    · have := (hgj j hj).1 z; have := (hS j hj z).1; omega
    · rw [(hgj j hj).2 z]
  have untG : ∀ j, j < n → (unt gj G j ↔ gj j < 0) := fun j hj => by have := h1 j hj; unfold unt; omega
  have fink : ∀ j k a b, 0 ≤ k → k ≤ G → (fin gs' k r d a b j ↔ fin gs k r d a b j) := fun j k a b k0 k1 => ⟨fun q t ht t1 t2 t3 => q t ht t1 t2 ((frek t k ht k0 k1).mpr t3), fun q t ht t1 t2 t3 => q t ht t1 t2 ((frek t k ht k0 k1).mp t3)⟩
  refine ⟨by omega, fun j hj => ?_, fun t ht => ?_, fun k k0 k1 => ?_, fun j t hj ht t1 t2 q => ?_, fun k k0 k1 => ?_, fun k k0 k1 => ?_, fun k k0 k1 => ?_, fun k a b k0 k1 hab hb => ?_, fun j hj q => ?_, fun t ht q => ?_, fun _ => ⟨f, t0, hft, ht0, fun t ht q => ?_, fun t t1 t2 => ?_, fun j hj q => ?_⟩, ?_⟩
  · have := h1 j hj
    rcases Classical.em (S j) with z | z
    · have := (hgj j hj).1 z; omega
    · have := (hgj j hj).2 z; omega
  · have := h2 t ht
    rcases Classical.em (f ≤ t ∧ t < t0 ∧ gs t < 0) with z | z
    · have := (hgs t ht).1 z; omega
    · have := (hgs t ht).2 z; omega
  · rw [hW', hT']
    split
    · exact ⟨hW0, hT0⟩
    · exact h3 k k0 (by omega)
  · have a2 := h2 t ht
    rcases Classical.em (S j) with z | z
    · rw [(hgj j hj).1 z]
      rcases Classical.em (f ≤ t ∧ t < t0 ∧ gs t < 0) with y | y
      · rw [(hgs t ht).1 y]; omega
      · rw [(hgs t ht).2 y]
        rcases Int.lt_or_le (gs t) 0 with x | x
        · have := (hS j hj z).2 t ht t1 t2 (Or.inl x); omega
        · omega
    · rw [(hgj j hj).2 z] at q ⊢
      have a := h4 j t hj ht t1 t2 q
      rw [(hgs t ht).2 (by omega)]
      exact a
  · rw [hW']
    split
    · next y => rw [hW]; exact sp_congr (fun j hj => by rw [y]; exact (gjG j hj).symm) (fun _ _ _ => rfl)
    · next y => rw [h5 k k0 (by omega)]; exact sp_congr (fun j hj => (gjk j k hj k0 (by omega)).symm) (fun _ _ _ => rfl)
  · rw [hT']
    split
    · next y =>
      rw [hT, y]
      have c := sp_cut (P := fun t => gs' t = G) (f := fun _ => (1 : Rat)) ht0
      rw [sp_no (P := fun i => t0 ≤ i ∧ gs' i = G) (fun i hi q => by have := (gsG i hi).mp q.2; omega), Rat.add_zero] at c
      rw [c]
      exact sp_congr (fun t ht => by rw [gsG t (by omega)]; exact ⟨fun q => ⟨q.1, ht, q.2⟩, fun q => ⟨q.1, q.2.2⟩⟩) (fun _ _ _ => rfl)
    · next y => rw [h6 k k0 (by omega)]; exact sp_congr (fun t ht => (gsk t k ht k0 (by omega)).symm) (fun _ _ _ => rfl)
  · rw [hW', hT', hT', hW']
    rw [if_neg (show ¬ k = G by omega), if_neg (show ¬ k = G by omega)]
    rcases (show k + 1 = G ∨ k + 1 < G by omega) with y | y
    · rw [if_pos y, if_pos y]
      obtain ⟨f0, e0, g1, g2, g3, g4, g5⟩ := h11 (by omega)
      have hk : G - 1 = k := by omega
      rw [hk] at g3 g5
      have Tk := h6 k k0 (by omega)
      have Wk := h5 k k0 (by omega)
      have Wkq : (0 : Rat) ≤ (W k : Rat) := Rat.intCast_nonneg.mpr (by have := h3 k k0 (by omega); omega)
      have Tkq : (0 : Rat) ≤ (T k : Rat) := Rat.intCast_nonneg.mpr (by have := h3 k k0 (by omega); omega)
      have res : (W1 : Rat) * (T k : Rat) ≤ (W k : Rat) * (T1 : Rat) := by
        -- the hull of the two stretches
        have hull : ∀ a b : Nat, a ≤ b → b ≤ 200 → a ≤ f → a ≤ f0 → t0 ≤ b → e0 ≤ b → (∀ t, a ≤ t → t < b → gs t < 0 → f ≤ t ∧ t < t0) → (W1 : Rat) * (T k : Rat) ≤ (W k : Rat) * (T1 : Rat) := by
          intro a b hab hb q1 q2 q3 q4 q5
          have dd := h8 k a b k0 (by omega) hab hb
          have s1 : sp S (fun j => (w j : Rat)) n + sp (fun j => gj j = k) (fun j => (w j : Rat)) n ≤ sp (fun j => unt gj k j ∧ fin gs k r d a b j) (fun j => (w j : Rat)) n := by
            rw [← sp_split (P := fun j => S j ∨ gj j = k) (P' := S) (R := fun j => gj j = k) (fun j hj => Iff.rfl) (fun j hj z y => by have := (hS j hj z).1; omega)]
            refine sp_le (fun j hj q => ⟨?_, Rat.le_refl⟩) (fun j hj _ _ => wq j hj)
            rcases q with q | q
            · refine ⟨Or.inl (hS j hj q).1, fun t ht t1 t2 t3 => ?_⟩
              rcases Int.lt_or_le (gs t) 0 with x | x
              · have := (hS j hj q).2 t ht t1 t2 (Or.inl x); omega
              · have := h2 t ht
                have := g3 t ht (by unfold fre at t3; omega)
                omega
            · refine ⟨Or.inr (by omega), fun t ht t1 t2 t3 => ?_⟩
              have := g5 j hj q t ht t1 t2 t3
              omega
          have s2 : sp (fun t => a ≤ t ∧ fre gs k t) (fun _ => (1 : Rat)) b = (T1 : Rat) + (T k : Rat) := by
            rw [sp_split (P := fun t => a ≤ t ∧ fre gs k t) (P' := fun t => a ≤ t ∧ gs t < 0) (R := fun t => a ≤ t ∧ gs t = k) (fun t ht => ?_) (fun t ht x1 x2 => by omega), hT, Tk]
            · congr 1
              · rw [sp_cut (P := fun t => a ≤ t ∧ gs t < 0) q3, sp_no (P := fun i => t0 ≤ i ∧ a ≤ i ∧ gs i < 0) (fun i hi x => by have := q5 i x.2.1 hi x.2.2; omega), Rat.add_zero]
                exact sp_congr (fun t ht => ⟨fun x => ⟨(q5 t x.1 (by omega) x.2).1, x.2⟩, fun x => ⟨by omega, x.2⟩⟩) (fun _ _ _ => rfl)
              · rw [sp_cut (P := fun t => gs t = k) hb, sp_no (P := fun i => b ≤ i ∧ gs i = k) (fun i hi x => by have := g3 i hi x.2; omega), Rat.add_zero]
                exact sp_congr (fun t ht => ⟨fun x => x.2, fun x => ⟨by have := g3 t (by omega) x; omega, x⟩⟩) (fun _ _ _ => rfl)
            · have := h2 t (by omega)
              unfold fre
              omega
          rw [s2] at dd
          rw [← hW, ← Wk] at s1
          have m := Rat.mul_le_mul_of_nonneg_right s1 Tkq
          grind
        rcases Classical.em (∃ j, j < n ∧ S j ∧ ∃ t : Nat, t < 200 ∧ r j ≤ (t : Int) ∧ (t : Int) < d j ∧ gs t = k) with ⟨j, hj, hSj, u, hu, u1, u2, u3⟩ | z
        · -- a job reaches from one stretch into the other: no free time lies between
          obtain ⟨v, hv, v1, v2, v3⟩ := h9 j hj (hS j hj hSj).1
          have vin := (hS j hj hSj).2 v hv v1 v2 (Or.inl v3)
          have uin := g3 u hu u3
          refine hull (min f f0) (max t0 e0) (by omega) (by omega) (by omega) (by omega) (by omega) (by omega) (fun t t1 t2 t3 => ?_)
          rcases Classical.em (f0 ≤ t ∧ t < e0) with x | x
          · have := g4 t x.1 x.2; omega
          · rcases Classical.em (r j ≤ (t : Int) ∧ (t : Int) < d j) with x2 | x2
            · exact (hS j hj hSj).2 t (by omega) x2.1 x2.2 (Or.inl t3)
            · omega
        · rcases Classical.em (f < e0 ∧ f0 < t0) with x | x
          · refine hull (min f f0) (max t0 e0) (by omega) (by omega) (by omega) (by omega) (by omega) (by omega) (fun t t1 t2 t3 => ?_)
            rcases Classical.em (f0 ≤ t ∧ t < e0) with y2 | y2
            · have := g4 t y2.1 y2.2; omega
            · omega
          · have dd := h8 k f t0 k0 (by omega) hft ht0
            have s1 : sp S (fun j => (w j : Rat)) n ≤ sp (fun j => unt gj k j ∧ fin gs k r d f t0 j) (fun j => (w j : Rat)) n := sp_le (fun j hj q => ⟨⟨Or.inl (hS j hj q).1, fun t ht t1 t2 t3 => by
                rcases Int.lt_or_le (gs t) 0 with x | x
                · exact (hS j hj q).2 t ht t1 t2 (Or.inl x)
                · have := h2 t ht
                  exact absurd ⟨j, hj, q, t, ht, t1, t2, by unfold fre at t3; omega⟩ z⟩, Rat.le_refl⟩) (fun j hj _ _ => wq j hj)
            have s2 : sp (fun t => f ≤ t ∧ fre gs k t) (fun _ => (1 : Rat)) t0 = (T1 : Rat) := by
              rw [hT]
              refine sp_congr (fun t ht => ⟨fun q => ⟨q.1, ?_⟩, fun q => ⟨q.1, Or.inl q.2⟩⟩) (fun _ _ _ => rfl)
              rcases q.2 with y2 | y2
              · exact y2
              · have := h2 t (by omega)
                have := g3 t (by omega) (by omega)
                omega
            rw [s2] at dd
            rw [← hW] at s1
            exact Rat.le_trans (Rat.mul_le_mul_of_nonneg_right s1 Tkq) dd
      rw [← Rat.intCast_mul, ← Rat.intCast_mul] at res
      exact Rat.intCast_le_intCast.mp res
    · rw [if_neg (by omega), if_neg (by omega)]
      exact h7 k k0 y
  · rw [hW', hT']
    have e1 : sp (fun j => unt gj' k j ∧ fin gs' k r d a b j) (fun j => (w j : Rat)) n = sp (fun j => unt gj k j ∧ fin gs k r d a b j) (fun j => (w j : Rat)) n := sp_congr (fun j hj => by rw [untk j k hj k0 (by omega), fink j k a b k0 (by omega)]) (fun _ _ _ => rfl)
    have e2 : sp (fun t => a ≤ t ∧ fre gs' k t) (fun _ => (1 : Rat)) b = sp (fun t => a ≤ t ∧ fre gs k t) (fun _ => 1) b := sp_congr (fun t ht => by rw [frek t k (by omega) k0 (by omega)]) (fun _ _ _ => rfl)
    rw [e1, e2]
    split
    · next y =>
      subst y
      have e3 : sp (fun j => unt gj k j ∧ fin gs k r d a b j) (fun j => (w j : Rat)) n = sp (fun j => gj j < 0 ∧ fin gs k r d a b j) (fun j => (w j : Rat)) n := sp_congr (fun j hj => by rw [untG j hj]) (fun _ _ _ => rfl)
      have e4 : sp (fun t => a ≤ t ∧ fre gs k t) (fun _ => (1 : Rat)) b = sp (fun t => a ≤ t ∧ gs t < 0) (fun _ => 1) b := sp_congr (fun t ht => by rw [freG t (by omega)]) (fun _ _ _ => rfl)
      rw [e3, e4]
      exact hmax a b hab hb
    · exact h8 k a b k0 (by omega) hab hb
  · have nS : ¬ S j := fun z => by have := (hgj j hj).1 z; omega
    rw [(hgj j hj).2 nS] at q
    refine Classical.byContradiction fun z => nS (hall j hj q fun t ht t1 t2 t3 => ?_)
    refine Classical.byContradiction fun y => z ⟨t, ht, t1, t2, ?_⟩
    rw [(hgs t ht).2 (fun x => y ⟨x.1, x.2.1⟩)]
    exact (freG t ht).mp t3
  · have a1 := hgs t (by omega)
    have a2 := hgs (t + 1) ht
    rcases Classical.em (gs t = gs (t + 1)) with y | y
    · rcases Classical.em (f ≤ t ∧ t < t0 ∧ gs t < 0) with x | x <;> rcases Classical.em (f ≤ t + 1 ∧ t + 1 < t0 ∧ gs (t + 1) < 0) with x' | x'
      · rw [a1.1 x, a2.1 x'] at q; exact absurd rfl q
      · rw [show t + 1 = t0 by omega]; exact het
      · rw [show t + 1 = f by omega]; exact hef
      · rw [a1.2 x, a2.2 x'] at q; exact absurd y q
    · exact h10 t ht y
  · have := (gsG t ht).mp (by omega)
    omega
  · rcases Int.lt_or_le (gs t) 0 with y | y
    · rw [(hgs t (by omega)).1 ⟨t1, t2, y⟩]; exact h0
    · rw [(hgs t (by omega)).2 (by omega)]; exact y
  · have z := (gjG j hj).mp (by omega)
    rw [show G + 1 - 1 = G by omega, fink j G f t0 h0 (Int.le_refl G)]
    exact (hS j hj z).2
  · -- someone is taken
    have some : ∃ j, j < n ∧ S j := Classical.byContradiction fun z => by
      rw [sp_no (P := S) (fun j hj q => z ⟨j, hj, q⟩)] at hW
      have := Rat.intCast_eq_zero_iff.mp hW
      omega
    obtain ⟨j, hj, hSj⟩ := some
    have := si_lt' (f := fun j => if 0 ≤ gj j then (1 : Int) else 0) (h := fun j => if 0 ≤ gj' j then (1 : Int) else 0) (k := j) (n := n) (fun i hi => ?_) hj ?_
    · omega
    · show (if 0 ≤ gj i then (1 : Int) else 0) ≤ if 0 ≤ gj' i then (1 : Int) else 0
      rcases Classical.em (S i) with z | z
      · rw [if_pos (show 0 ≤ gj' i by rw [(hgj i hi).1 z]; exact h0)]; split <;> omega
      · rw [(hgj i hi).2 z]; exact Int.le_refl _
    · show (if 0 ≤ gj j then (1 : Int) else 0) + 1 ≤ if 0 ≤ gj' j then (1 : Int) else 0
      rw [if_neg (show ¬ 0 ≤ gj j by have := (hS j hj hSj).1; omega), if_pos (show 0 ≤ gj' j by rw [(hgj j hj).1 hSj]; exact h0)]
      omega
end PCERT
