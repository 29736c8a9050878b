/-! sizes of speeds and costs; what a profile holds -/
/-- speeds over one number, and not too great -/
def SZ (x : Nat → Rat) (n : Nat) (L : Int) : Prop := 0 < L ∧ L < 2 ^ 140 ∧ ∀ t, t < n → (0 ≤ x t ∧ x t ≤ 12000) ∧ ((x t).den : Int) ∣ L
theorem SZ.shr {x : Nat → Rat} {n : Nat} {L : Int} (h : SZ x n L) {j : Nat} (hj : j < n) : x j * (L : Rat) = ((x j).num * (L / (x j).den) : Int) ∧ 0 ≤ (x j).num * (L / (x j).den) ∧ (x j).num * (L / (x j).den) ≤ 2 ^ 154 := by
  obtain ⟨h0, h1, h2⟩ := h
  obtain ⟨⟨a1, a2⟩, a3⟩ := h2 j hj
  have e0 := Rat.num_nonneg.mpr a1
  have := num_le (x := x j) (B := 12000) a2
  have dpos := den_pos (x := x j)
  have q0 := Int.ediv_nonneg (a := L) (b := (x j).den) (by omega) (by omega)
  have e1 : (x j).num * (L / (x j).den) ≤ 12000 * (x j).den * (L / (x j).den) := Int.mul_le_mul_of_nonneg_right this q0
  rw [Int.mul_assoc, Int.mul_ediv_cancel' a3] at e1
  have e2 : 12000 * (2 : Int) ^ 140 < 2 ^ 154 := by decide
  exact ⟨(share_rat a3).symm, Int.mul_nonneg e0 q0, by omega⟩
theorem SZ.nd {x : Nat → Rat} {n : Nat} {L : Int} (h : SZ x n L) {j : Nat} (hj : j < n) : (x j).num ≤ 2 ^ 154 ∧ ((x j).den : Int) < 2 ^ 140 := by
  have s := h.shr hj
  have := Int.le_of_dvd h.1 (h.2.2 j hj).2
  have b := bd_rat h.1 s.2.1 s.1
  have := h.2.1
  exact ⟨by omega, by omega⟩
def cub (x : Nat → Rat) (t : Nat) : Rat := x t * x t * x t
theorem SZ.cube1 {x : Nat → Rat} {n : Nat} {L : Int} (h : SZ x n L) {j : Nat} (hj : j < n) {l : Int} (hl : 0 ≤ l ∧ l ≤ 200) : ∃ N : Int, 0 ≤ N ∧ N ≤ 2 ^ 470 ∧ cub x j * (l : Rat) * ((L * L * L : Int) : Rat) = (N : Rat) := by
  obtain ⟨s1, s2, s3⟩ := h.shr hj
  generalize (x j).num * (L / (x j).den) = s at s1 s2 s3
  have m3 := mul3 s2 s3
  refine ⟨s * s * s * l, Int.mul_nonneg m3.2.2.2 hl.1, ?_, ?_⟩
  · have e1 : s * s * s * l ≤ 2 ^ 154 * 2 ^ 154 * 2 ^ 154 * 200 := Int.mul_le_mul m3.2.1 hl.2 hl.1 (by decide)
    have e2 : (2 : Int) ^ 154 * 2 ^ 154 * 2 ^ 154 * 200 < 2 ^ 470 := by decide
    omega
  · rw [Rat.intCast_mul, Rat.intCast_mul, Rat.intCast_mul, Rat.intCast_mul, Rat.intCast_mul, ← s1]
    unfold cub
    grind
theorem L3 {L : Int} (h : 0 < L) (h2 : L < 2 ^ 140) : 0 < L * L * L ∧ L * L * L < 2 ^ 420 := by
  have cb := mul3 (x := L) (B := 2 ^ 140 - 1) (by omega) (by omega)
  have e : ((2 : Int) ^ 140 - 1) * (2 ^ 140 - 1) * (2 ^ 140 - 1) < 2 ^ 420 := by decide
  exact ⟨Int.mul_pos (Int.mul_pos h h) h, by omega⟩
theorem SZ.cube {x : Nat → Rat} {n : Nat} {L : Int} (h : SZ x n L) {ln : Nat → Int} (hl : ∀ j, j < n → 0 ≤ ln j ∧ ln j ≤ 200) : ∀ i, i ≤ n → i ≤ 24 → ∃ N : Int, 0 ≤ N ∧ N ≤ i * 2 ^ 470 ∧ su (fun j => cub x j * (ln j : Rat)) i * ((L * L * L : Int) : Rat) = (N : Rat) := by
  intro i
  induction i with
  | zero => intro _ _; exact ⟨0, by decide, by decide, by show (0 : Rat) * _ = _; rw [Rat.zero_mul]; rfl⟩
  | succ i ih =>
    intro hi h24
    obtain ⟨N, n1, n2, n3⟩ := ih (by omega) (by omega)
    obtain ⟨M, m1, m2, m3⟩ := h.cube1 (show i < n by omega) (hl i (by omega))
    refine ⟨N + M, by omega, by omega, ?_⟩
    show (su _ i + cub x i * (ln i : Rat)) * _ = _
    rw [Rat.add_mul, n3, m3, Rat.intCast_add]
theorem SZ.cost {x : Nat → Rat} {n : Nat} {L : Int} (h : SZ x n L) {ln : Nat → Int} (hl : ∀ j, j < n → 0 ≤ ln j ∧ ln j ≤ 200) {i : Nat} (hi : i ≤ n) (h24 : i ≤ 24) : (su (fun j => cub x j * (ln j : Rat)) i).num < 2 ^ 475 ∧ (((su (fun j => cub x j * (ln j : Rat)) i).den : Nat) : Int) < 2 ^ 420 := by
  obtain ⟨N, n1, n2, n3⟩ := h.cube hl i hi h24
  have l3 := L3 h.1 h.2.1
  have b := bd_rat l3.1 n1 n3
  have e : (24 : Int) * 2 ^ 470 < 2 ^ 475 := by decide
  exact ⟨by omega, by omega⟩
theorem SZ.cost1 {x : Nat → Rat} {n : Nat} {L : Int} (h : SZ x n L) {j : Nat} (hj : j < n) {l : Int} (hl : 0 ≤ l ∧ l ≤ 200) : (cub x j * (l : Rat)).num < 2 ^ 475 ∧ (((cub x j * (l : Rat)).den : Nat) : Int) < 2 ^ 420 := by
  obtain ⟨N, n1, n2, n3⟩ := h.cube1 hj hl
  have l3 := L3 h.1 h.2.1
  have b := bd_rat l3.1 n1 n3
  have e : (2 : Int) ^ 470 < 2 ^ 475 := by decide
  exact ⟨by omega, by omega⟩
/-- a product of group times -/
def prT (T : Int → Int) : Nat → Int
  | 0 => 1
  | k + 1 => prT T k * T k
theorem prT_bd {T : Int → Int} : ∀ {G : Nat}, (∀ k : Nat, k < G → 0 < T k ∧ T k ≤ 200) → 0 < prT T G ∧ prT T G ≤ 200 ^ G
  | 0, _ => ⟨by show (0 : Int) < 1; decide, by show (1 : Int) ≤ 200 ^ 0; decide⟩
  | G + 1, h => by
    have ih := prT_bd (T := T) (G := G) fun k hk => h k (by omega)
    have t := h G (by omega)
    show 0 < prT T G * T G ∧ prT T G * T G ≤ 200 ^ G * 200
    exact ⟨Int.mul_pos ih.1 t.1, Int.mul_le_mul ih.2 t.2 (by omega) (Int.pow_nonneg (by decide))⟩
theorem prT_dvd {T : Int → Int} : ∀ {G k : Nat}, k < G → T k ∣ prT T G
  | G + 1, k, h => by
    show T k ∣ prT T G * T G
    rcases Nat.lt_or_ge k G with y | y
    · exact Int.dvd_trans (prT_dvd y) (Int.dvd_mul_right _ _)
    · obtain rfl : k = G := by omega
      exact Int.dvd_mul_left _ _
theorem den_dvd {p q : Int} (hq : 0 < q) : (((((p : Rat) / (q : Rat)).den : Nat) : Int)) ∣ q := by
  have hl := rat_low (p := p) hq rfl
  rw [hl.2]
  exact Int.ediv_dvd_of_dvd gcdi_dr
theorem pow200 {G : Nat} (h : G ≤ 12) : (200 : Int) ^ G < 2 ^ 140 := by
  have : ∀ k : Fin 13, (200 : Int) ^ k.val < 2 ^ 140 := by decide
  exact this ⟨G, by omega⟩
theorem Cert.sz {n : Nat} {r d w gs gj : Nat → Int} {G : Nat} {W T : Int → Int} (c : Cert n r d w gs gj G W T) (hn : n ≤ 12) (hw : ∀ j, j < n → 0 < w j ∧ w j ≤ 1000) (hG : G ≤ 12) : SZ (spd gs W T) 200 (prT T G) := by
  have tb : ∀ k : Nat, k < G → 0 < T k ∧ T k ≤ 200 := fun k hk => c.Tb (by omega) (by omega)
  have pb := prT_bd tb
  have pw := pow200 hG
  refine ⟨pb.1, by omega, fun t ht => ⟨⟨c.spn ht, ?_⟩, ?_⟩⟩
  · unfold spd
    split
    · exact Rat.intCast_le_intCast (a := 0) (b := 12000) |>.mpr (by decide)
    · have g := c.gs0 t ht
      have wb := c.Wb hn hw (k := gs t) (by omega) (by omega)
      have t1 := c.Tb (k := gs t) (by omega) (by omega)
      have sT := c.sT (k := gs t) (by omega) (by omega)
      have Tq : (0 : Rat) < (T (gs t) : Rat) := Rat.intCast_pos.mpr t1.1
      refine Rat.le_of_mul_le_mul_right ?_ Tq
      rw [sT]
      have e1 : (W (gs t) : Rat) ≤ ((12000 * T (gs t) : Int) : Rat) := Rat.intCast_le_intCast.mpr (by omega)
      rw [Rat.intCast_mul] at e1
      exact e1
  · unfold spd
    split
    · exact Int.one_dvd _
    · have g := c.gs0 t ht
      have t1 := c.Tb (k := gs t) (by omega) (by omega)
      refine Int.dvd_trans (den_dvd t1.1) ?_
      have := prT_dvd (T := T) (G := G) (k := (gs t).toNat) (by omega)
      rwa [Int.toNat_of_nonneg (by omega)] at this
/-- nothing is done outside -/
theorem dem_out {n : Nat} {r d w : Nat → Int} {x : Nat → Rat} {fi la : Nat} (hx : ∀ t, t < 200 → 0 ≤ x t) (hd : Dem n r d w x) (ht : su x 200 = su (fun j => (w j : Rat)) n) (hla : la ≤ 200) (hfl : fi ≤ la) (hr : ∀ j, j < n → (fi : Int) ≤ r j ∧ d j ≤ la) : ∀ t, t < 200 → t < fi ∨ la ≤ t → x t = 0 := by
  have h1 := hd fi la hfl hla
  rw [sp_all (fun j hj => hr j hj), ← ht] at h1
  have e1 : su x 200 = sp (fun t => fi ≤ t ∧ t < la) x 200 + sp (fun t => ¬ (fi ≤ t ∧ t < la)) x 200 := by
    rw [← sp_all (P := fun _ => True) (f := x) (n := 200) (fun _ _ => trivial)]
    exact sp_split (fun t _ => ⟨fun _ => Classical.em _, fun _ => trivial⟩) (fun t _ a b => b a)
  have e2 : sp (fun t => fi ≤ t ∧ t < la) x 200 = sp (fun t => fi ≤ t) x la := by
    rw [sp_cut hla, sp_no (P := fun i => la ≤ i ∧ fi ≤ i ∧ i < la) (fun i hi q => by omega), Rat.add_zero]
    exact sp_congr (fun t ht => ⟨fun q => q.1, fun q => ⟨q, ht⟩⟩) (fun _ _ _ => rfl)
  have e3 : sp (fun t => ¬ (fi ≤ t ∧ t < la)) x 200 ≤ 0 := by grind
  intro t ht2 q
  have e4 := sp_one (P := fun t => ¬ (fi ≤ t ∧ t < la)) (f := x) (n := 200) ht2 (by omega) (fun i hi _ => hx i hi)
  have := hx t ht2
  grind
theorem FL.bd {n : Nat} {r d w : Nat → Int} {pl : Nat → Nat} {fi la : Nat} (h : FL n r d fi la) (f : JF n r d w pl) : fi ≤ la ∧ la ≤ 200 ∧ (∀ j, j < n → (fi : Int) ≤ r j ∧ d j ≤ la) ∧ (0 < n → fi < la) := by
  rcases h with ⟨h1, h2, h3⟩ | ⟨h1, ⟨j, j1, j2⟩, h3, ⟨i, i1, i2⟩, h5⟩
  · exact ⟨by omega, by omega, fun j hj => by omega, fun _ => by omega⟩
  · have wj := f.2.1 j j1
    have wi := f.2.1 i i1
    have := h5 j j1
    exact ⟨by omega, by omega, fun j hj => ⟨h3 j hj, h5 j hj⟩, fun _ => by omega⟩
