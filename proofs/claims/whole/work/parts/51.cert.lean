/-! groups, densest first: what they mean -/
def Cert (n : Nat) (r d w : Nat → Int) (gs gj : Nat → Int) (G : Int) (W T : Int → Int) : Prop :=
  (∀ j, j < n → 0 ≤ r j ∧ r j < d j ∧ d j ≤ 200) ∧
  (∀ j, j < n → 0 < w j) ∧
  (∀ j, j < n → 0 ≤ gj j ∧ gj j < G) ∧
  (∀ t, t < 200 → -1 ≤ gs t ∧ gs t < G) ∧
  (∀ k, 0 ≤ k → k < G → 0 < W k ∧ 0 < T k) ∧
  (∀ (j t : Nat), j < n → t < 200 → r j ≤ (t : Int) → (t : Int) < d j → 0 ≤ gs t ∧ gs t ≤ gj j) ∧
  (∀ k, 0 ≤ k → k < G → (W k : Rat) = sp (fun j => gj j = k) (fun j => (w j : Rat)) n) ∧
  (∀ k, 0 ≤ k → k < G → (T k : Rat) = sp (fun t => gs t = k) (fun _ => 1) 200) ∧
  (∀ k, 0 ≤ k → k + 1 < G → W (k + 1) * T k ≤ W k * T (k + 1)) ∧
  (∀ k (a b : Nat), 0 ≤ k → k < G → a ≤ b → b ≤ 200 → sp (fun j => k ≤ gj j ∧ (a : Int) ≤ r j ∧ d j ≤ b) (fun j => (w j : Rat)) n * (T k : Rat) ≤ (W k : Rat) * sp (fun t => a ≤ t ∧ (gs t < 0 ∨ k ≤ gs t)) (fun _ => 1) b)
theorem Cert.win {n : Nat} {r d w gs gj : Nat → Int} {G : Int} {W T : Int → Int} (c : Cert n r d w gs gj G W T) : ∀ j, j < n → 0 ≤ r j ∧ r j < d j ∧ d j ≤ 200 := c.1
theorem Cert.wp {n : Nat} {r d w gs gj : Nat → Int} {G : Int} {W T : Int → Int} (c : Cert n r d w gs gj G W T) : ∀ j, j < n → 0 < w j := c.2.1
theorem Cert.gj0 {n : Nat} {r d w gs gj : Nat → Int} {G : Int} {W T : Int → Int} (c : Cert n r d w gs gj G W T) : ∀ j, j < n → 0 ≤ gj j ∧ gj j < G := c.2.2.1
theorem Cert.gs0 {n : Nat} {r d w gs gj : Nat → Int} {G : Int} {W T : Int → Int} (c : Cert n r d w gs gj G W T) : ∀ t, t < 200 → -1 ≤ gs t ∧ gs t < G := c.2.2.2.1
theorem Cert.pos {n : Nat} {r d w gs gj : Nat → Int} {G : Int} {W T : Int → Int} (c : Cert n r d w gs gj G W T) : ∀ k, 0 ≤ k → k < G → 0 < W k ∧ 0 < T k := c.2.2.2.2.1
theorem Cert.ins {n : Nat} {r d w gs gj : Nat → Int} {G : Int} {W T : Int → Int} (c : Cert n r d w gs gj G W T) : ∀ (j t : Nat), j < n → t < 200 → r j ≤ (t : Int) → (t : Int) < d j → 0 ≤ gs t ∧ gs t ≤ gj j := c.2.2.2.2.2.1
theorem Cert.Wd {n : Nat} {r d w gs gj : Nat → Int} {G : Int} {W T : Int → Int} (c : Cert n r d w gs gj G W T) : ∀ k, 0 ≤ k → k < G → (W k : Rat) = sp (fun j => gj j = k) (fun j => (w j : Rat)) n := c.2.2.2.2.2.2.1
theorem Cert.Td {n : Nat} {r d w gs gj : Nat → Int} {G : Int} {W T : Int → Int} (c : Cert n r d w gs gj G W T) : ∀ k, 0 ≤ k → k < G → (T k : Rat) = sp (fun t => gs t = k) (fun _ => 1) 200 := c.2.2.2.2.2.2.2.1
theorem Cert.mono {n : Nat} {r d w gs gj : Nat → Int} {G : Int} {W T : Int → Int} (c : Cert n r d w gs gj G W T) : ∀ k, 0 ≤ k → k + 1 < G → W (k + 1) * T k ≤ W k * T (k + 1) := c.2.2.2.2.2.2.2.2.1
theorem Cert.dens {n : Nat} {r d w gs gj : Nat → Int} {G : Int} {W T : Int → Int} (c : Cert n r d w gs gj G W T) : ∀ k (a b : Nat), 0 ≤ k → k < G → a ≤ b → b ≤ 200 → sp (fun j => k ≤ gj j ∧ (a : Int) ≤ r j ∧ d j ≤ b) (fun j => (w j : Rat)) n * (T k : Rat) ≤ (W k : Rat) * sp (fun t => a ≤ t ∧ (gs t < 0 ∨ k ≤ gs t)) (fun _ => 1) b := c.2.2.2.2.2.2.2.2.2
/-- a group's speed; the speed at a time -/
def sdk (W T : Int → Int) (k : Int) : Rat := (W k : Rat) / (T k : Rat)
def spd (gs : Nat → Int) (W T : Int → Int) (t : Nat) : Rat := if gs t < 0 then 0 else sdk W T (gs t)
theorem sp_ite {P Q : Nat → Prop} [inst : ∀ t, Decidable (Q t)] {y : Nat → Rat} {n : Nat} : sp P (fun t => if Q t then y t else 0) n = sp (fun t => P t ∧ Q t) y n := by
  induction n with
  | zero => rfl
  | succ n ih =>
    rcases Classical.em (P n) with z | z
    · rw [sp_t z]
      rcases Classical.em (Q n) with q | q
      · rw [if_pos q, sp_t (P := fun t => P t ∧ Q t) ⟨z, q⟩, ih]
      · rw [if_neg q, sp_f (P := fun t => P t ∧ Q t) (fun a => q a.2), ih, Rat.add_zero]
    · rw [sp_f z, sp_f (P := fun t => P t ∧ Q t) (fun a => z a.1), ih]
theorem sp_c {P : Nat → Prop} {c : Rat} {n : Nat} : sp P (fun _ => c) n = c * sp P (fun _ => 1) n := by
  have := sp_mul (P := P) (f := fun _ => 1) (c := c) (n := n)
  simp only [Rat.one_mul] at this
  rw [this, Rat.mul_comm]
/-- there is time for what is to be done between two times -/
def Dem (n : Nat) (r d w : Nat → Int) (x : Nat → Rat) : Prop := ∀ a b : Nat, a ≤ b → b ≤ 200 → sp (fun j => (a : Int) ≤ r j ∧ d j ≤ b) (fun j => (w j : Rat)) n ≤ sp (fun t => a ≤ t) x b
section CERT
variable {n : Nat} {r d w gs gj gs' gj' : Nat → Int} {G G' : Int} {W T W' T' : Int → Int}
theorem Cert.Tp (c : Cert n r d w gs gj G W T) {k : Int} (h0 : 0 ≤ k) (h1 : k < G) : (0 : Rat) < (T k : Rat) := Rat.intCast_pos.mpr (c.pos k h0 h1).2
theorem Cert.sT (c : Cert n r d w gs gj G W T) {k : Int} (h0 : 0 ≤ k) (h1 : k < G) : sdk W T k * (T k : Rat) = (W k : Rat) := by
  have := c.Tp h0 h1
  unfold sdk
  rw [Rat.div_mul_cancel]
  grind
theorem Cert.sp0 (c : Cert n r d w gs gj G W T) {k : Int} (h0 : 0 ≤ k) (h1 : k < G) : 0 < sdk W T k := by
  have h2 := c.Tp h0 h1
  have h3 : (0 : Rat) < (W k : Rat) := Rat.intCast_pos.mpr (c.pos k h0 h1).1
  unfold sdk
  rw [Rat.lt_div_iff h2, Rat.zero_mul]
  exact h3
theorem Cert.smono (c : Cert n r d w gs gj G W T) {k : Int} (h0 : 0 ≤ k) (h1 : k + 1 < G) : sdk W T (k + 1) ≤ sdk W T k := by
  have t0 := c.Tp h0 (by omega)
  have t1 := c.Tp (k := k + 1) (by omega) h1
  have e0 := c.sT h0 (by omega)
  have e1 := c.sT (k := k + 1) (by omega) h1
  have m : ((W (k + 1) * T k : Int) : Rat) ≤ ((W k * T (k + 1) : Int) : Rat) := Rat.intCast_le_intCast.mpr (c.mono k h0 h1)
  rw [Rat.intCast_mul, Rat.intCast_mul, ← e0, ← e1] at m
  refine Rat.le_of_mul_le_mul_right (c := (T k : Rat) * (T (k + 1) : Rat)) ?_ (Rat.mul_pos t0 t1)
  grind
/-- a group's jobs within two times have room in the group's own times there -/
theorem Cert.gdem (c : Cert n r d w gs gj G W T) {k : Int} (h0 : 0 ≤ k) (h1 : k < G) {a b : Nat} (hab : a ≤ b) (hb : b ≤ 200) :
    sp (fun j => gj j = k ∧ (a : Int) ≤ r j ∧ d j ≤ b) (fun j => (w j : Rat)) n ≤ sdk W T k * sp (fun t => a ≤ t ∧ gs t = k) (fun _ => 1) b := by
  have hT := c.Tp h0 h1
  have hsT := c.sT h0 h1
  have key := run_room (n := n) (J := fun j => gj j = k ∧ (a : Int) ≤ r j ∧ d j ≤ b) (r := r) (d := d) (w := fun j => (w j : Rat)) (U := fun t => a ≤ t ∧ t < b ∧ 0 ≤ gs t ∧ gs t ≤ k) (x := fun t => if gs t = k then sdk W T k else 0)
    (fun j hj => Rat.intCast_nonneg.mpr (by have := c.wp j hj; omega)) (fun j hj _ => ⟨(c.win j hj).1, (c.win j hj).2.1⟩) (fun cc e hce hU => ?_) b
  · rw [sp_ite, sp_c] at key
    have e1 : sp (fun j => (gj j = k ∧ (a : Int) ≤ r j ∧ d j ≤ b) ∧ (∀ t : Nat, r j ≤ t → (t : Int) < d j → a ≤ t ∧ t < b ∧ 0 ≤ gs t ∧ gs t ≤ k) ∧ d j ≤ (b : Int)) (fun j => (w j : Rat)) n = sp (fun j => gj j = k ∧ (a : Int) ≤ r j ∧ d j ≤ b) (fun j => (w j : Rat)) n := sp_congr (fun j hj => ⟨fun q => q.1, fun q => ⟨q, fun t t1 t2 => ?_, q.2.2⟩⟩) (fun _ _ _ => rfl)
    · have e2 : sp (fun t => (a ≤ t ∧ t < b ∧ 0 ≤ gs t ∧ gs t ≤ k) ∧ gs t = k) (fun _ => (1 : Rat)) b = sp (fun t => a ≤ t ∧ gs t = k) (fun _ => 1) b := sp_congr (fun t ht => ⟨fun q => ⟨q.1.1, q.2⟩, fun q => ⟨⟨q.1, ht, by omega, by omega⟩, q.2⟩⟩) (fun _ _ _ => rfl)
      rw [e1, e2] at key
      exact key
    · have := c.ins j t hj (by omega) t1 t2
      omega
  · rw [sp_ite, sp_c]
    rcases (show cc = e ∨ cc < e by omega) with z | z
    · subst z
      rw [sp_no (fun j hj q => by have := c.win j hj; omega), sp_no (P := fun t => cc ≤ t ∧ gs t = k) (fun t ht q => by omega), Rat.mul_zero]
      exact Rat.le_refl
    · have heb : e ≤ 200 := by have := hU (e - 1) (by omega) (by omega); omega
      have dn := c.dens k cc e h0 h1 hce heb
      have l1 : sp (fun j => (gj j = k ∧ (a : Int) ≤ r j ∧ d j ≤ b) ∧ (cc : Int) ≤ r j ∧ d j ≤ e) (fun j => (w j : Rat)) n ≤ sp (fun j => k ≤ gj j ∧ (cc : Int) ≤ r j ∧ d j ≤ e) (fun j => (w j : Rat)) n :=
        sp_le (fun j hj q => ⟨⟨by omega, q.2⟩, Rat.le_refl⟩) (fun j hj _ _ => Rat.intCast_nonneg.mpr (by have := c.wp j hj; omega))
      have e2 : sp (fun t => cc ≤ t ∧ (gs t < 0 ∨ k ≤ gs t)) (fun _ => (1 : Rat)) e = sp (fun t => cc ≤ t ∧ gs t = k) (fun _ => 1) e := sp_congr (fun t ht => ⟨fun q => ⟨q.1, ?_⟩, fun q => ⟨q.1, Or.inr (by omega)⟩⟩) (fun _ _ _ => rfl)
      · rw [e2] at dn
        refine Rat.le_trans l1 ?_
        refine Rat.le_of_mul_le_mul_right (c := (T k : Rat)) ?_ hT
        rw [← hsT] at dn
        grind
      · have := hU t q.1 ht
        rcases q.2 with y | y <;> omega
theorem Cert.dem (c : Cert n r d w gs gj G W T) : Dem n r d w (spd gs W T) := by
  intro a b hab hb
  have key : ∀ m : Nat, (m : Int) ≤ G → sp (fun j => gj j < m ∧ (a : Int) ≤ r j ∧ d j ≤ b) (fun j => (w j : Rat)) n ≤ sp (fun t => a ≤ t ∧ 0 ≤ gs t ∧ gs t < m) (spd gs W T) b := by
    intro m
    induction m with
    | zero =>
      intro _
      rw [sp_no (fun j hj q => by have := c.gj0 j hj; omega), sp_no (P := fun t => a ≤ t ∧ 0 ≤ gs t ∧ gs t < ((0 : Nat) : Int)) (fun t ht q => by omega)]
      exact Rat.le_refl
    | succ m ih =>
      intro hm
      have i1 := ih (by omega)
      have g1 := c.gdem (k := m) (by omega) (by omega) hab hb
      rw [sp_split (P := fun j => gj j < ((m + 1 : Nat) : Int) ∧ (a : Int) ≤ r j ∧ d j ≤ b) (P' := fun j => gj j < m ∧ (a : Int) ≤ r j ∧ d j ≤ b) (R := fun j => gj j = m ∧ (a : Int) ≤ r j ∧ d j ≤ b) (fun j hj => by omega) (fun j hj q1 q2 => by omega)]
      rw [sp_split (P := fun t => a ≤ t ∧ 0 ≤ gs t ∧ gs t < ((m + 1 : Nat) : Int)) (P' := fun t => a ≤ t ∧ 0 ≤ gs t ∧ gs t < m) (R := fun t => a ≤ t ∧ gs t = m) (fun t ht => by omega) (fun t ht q1 q2 => by omega)]
      have e2 : sp (fun t => a ≤ t ∧ gs t = m) (spd gs W T) b = sdk W T m * sp (fun t => a ≤ t ∧ gs t = m) (fun _ => 1) b := by
        rw [← sp_c]
        exact sp_congr (fun _ _ => Iff.rfl) (fun t ht q => by unfold spd; rw [if_neg (by omega), q.2])
      rw [e2]
      grind
  rcases Int.lt_or_le 0 G with z | z
  · have k := key G.toNat (by omega)
    have k1 : sp (fun j => (a : Int) ≤ r j ∧ d j ≤ b) (fun j => (w j : Rat)) n ≤ sp (fun j => gj j < ((G.toNat : Nat) : Int) ∧ (a : Int) ≤ r j ∧ d j ≤ b) (fun j => (w j : Rat)) n :=
      sp_le (fun j hj q => ⟨⟨by have := c.gj0 j hj; omega, q⟩, Rat.le_refl⟩) (fun j hj _ _ => Rat.intCast_nonneg.mpr (by have := c.wp j hj; omega))
    have k2 : sp (fun t => a ≤ t ∧ 0 ≤ gs t ∧ gs t < ((G.toNat : Nat) : Int)) (spd gs W T) b ≤ sp (fun t => a ≤ t) (spd gs W T) b := sp_le (fun t ht q => ⟨q.1, Rat.le_refl⟩) (fun t ht _ q => by
      have := c.gs0 t (by omega)
      unfold spd
      split
      · exact Rat.le_refl
      · exact Rat.le_of_lt (c.sp0 (by omega) (by omega)))
    exact Rat.le_trans (Rat.le_trans k1 k) k2
  · rw [sp_no (fun j hj q => by have := c.gj0 j hj; omega)]
    refine sp_nn (fun t ht _ => ?_)
    have := c.gs0 t (by omega)
    unfold spd
    rw [if_pos (by omega)]
    exact Rat.le_refl
theorem Cert.cap (c : Cert n r d w gs gj G W T) : ∀ m : Nat, (m : Int) ≤ G → sp (fun t => 0 ≤ gs t ∧ gs t < m) (spd gs W T) 200 = sp (fun j => gj j < m) (fun j => (w j : Rat)) n := by
  intro m
  induction m with
  | zero =>
    intro _
    rw [sp_no (P := fun j => gj j < ((0 : Nat) : Int)) (fun j hj q => by have := c.gj0 j hj; omega), sp_no (P := fun t => 0 ≤ gs t ∧ gs t < ((0 : Nat) : Int)) (fun t ht q => by omega)]
  | succ m ih =>
    intro hm
    have i1 := ih (by omega)
    have h1 := c.Wd m (by omega) (by omega)
    have h2 := c.Td m (by omega) (by omega)
    have h3 := c.sT (k := m) (by omega) (by omega)
    rw [sp_split (P := fun j => gj j < ((m + 1 : Nat) : Int)) (P' := fun j => gj j < m) (R := fun j => gj j = m) (fun j hj => by omega) (fun j hj q1 q2 => by omega)]
    rw [sp_split (P := fun t => 0 ≤ gs t ∧ gs t < ((m + 1 : Nat) : Int)) (P' := fun t => 0 ≤ gs t ∧ gs t < m) (R := fun t => gs t = m) (fun t ht => by omega) (fun t ht q1 q2 => by omega)]
    have e2 : sp (fun t => gs t = m) (spd gs W T) 200 = sdk W T m * sp (fun t => gs t = m) (fun _ => 1) 200 := by
      rw [← sp_c]
      exact sp_congr (fun _ _ => Iff.rfl) (fun t ht q => by unfold spd; rw [if_neg (by omega), q])
    rw [e2, i1, ← h1, ← h2, h3]
theorem Cert.total (c : Cert n r d w gs gj G W T) : su (spd gs W T) 200 = su (fun j => (w j : Rat)) n := by
  rcases Int.lt_or_le 0 G with z | z
  · have k := c.cap G.toNat (by omega)
    have e1 : sp (fun j => gj j < ((G.toNat : Nat) : Int)) (fun j => (w j : Rat)) n = su (fun j => (w j : Rat)) n := sp_all (fun j hj => by have := c.gj0 j hj; omega)
    have e2 : sp (fun t => True) (spd gs W T) 200 = sp (fun t => 0 ≤ gs t ∧ gs t < ((G.toNat : Nat) : Int)) (spd gs W T) 200 + sp (fun t => gs t < 0) (spd gs W T) 200 :=
      sp_split (fun t ht => ⟨fun _ => by have := c.gs0 t ht; omega, fun _ => trivial⟩) (fun t ht q1 q2 => by omega)
    have e3 : sp (fun t => gs t < 0) (spd gs W T) 200 = 0 := by
      rw [sp_congr (P := fun t => gs t < 0) (P' := fun t => gs t < 0) (h := fun _ => 0) (fun _ _ => Iff.rfl) (fun t ht q => by unfold spd; rw [if_pos q]), sp_c, Rat.zero_mul]
    rw [sp_all (fun _ _ => trivial)] at e2
    rw [e2, e3, k, e1, Rat.add_zero]
  · have hn : n = 0 := by
      rcases Nat.eq_zero_or_pos n with y | y
      · exact y
      · have := c.gj0 0 y; omega
    subst hn
    have e1 : su (spd gs W T) 200 = su (fun _ => 0) 200 := su_congr (fun t ht => by have := c.gs0 t ht; unfold spd; rw [if_pos (by omega)])
    have e2 := sp_c (P := fun _ => True) (c := 0) (n := 200)
    rw [sp_all (fun _ _ => trivial), Rat.zero_mul] at e2
    rw [e1, e2]
    rfl
/-- in the times of the first groups each profile that leaves room does at least what they do -/
theorem Cert.first (c : Cert n r d w gs gj G W T) {x : Nat → Rat} (hx : ∀ t, t < 200 → 0 ≤ x t) (hd : Dem n r d w x) {m : Nat} (hm : (m : Int) ≤ G) : sp (fun t => 0 ≤ gs t ∧ gs t < m) (spd gs W T) 200 ≤ sp (fun t => 0 ≤ gs t ∧ gs t < m) x 200 := by
  rw [c.cap m hm]
  have key := run_room (n := n) (J := fun j => gj j < m) (r := r) (d := d) (w := fun j => (w j : Rat)) (U := fun t => t < 200 ∧ 0 ≤ gs t ∧ gs t < m) (x := x)
    (fun j hj => Rat.intCast_nonneg.mpr (by have := c.wp j hj; omega)) (fun j hj _ => ⟨(c.win j hj).1, (c.win j hj).2.1⟩) (fun cc e hce hU => ?_) 200
  · have e1 : sp (fun j => gj j < m ∧ (∀ t : Nat, r j ≤ t → (t : Int) < d j → t < 200 ∧ 0 ≤ gs t ∧ gs t < m) ∧ d j ≤ ((200 : Nat) : Int)) (fun j => (w j : Rat)) n = sp (fun j => gj j < m) (fun j => (w j : Rat)) n := sp_congr (fun j hj => ⟨fun q => q.1, fun q => ⟨q, fun t t1 t2 => ?_, (c.win j hj).2.2⟩⟩) (fun _ _ _ => rfl)
    · have e2 : sp (fun t => t < 200 ∧ 0 ≤ gs t ∧ gs t < m) x 200 = sp (fun t => 0 ≤ gs t ∧ gs t < m) x 200 := sp_congr (fun t ht => ⟨fun q => q.2, fun q => ⟨ht, q⟩⟩) (fun _ _ _ => rfl)
      rw [e1, e2] at key
      exact key
    · have h1 := c.win j hj
      have := c.ins j t hj (by omega) t1 t2
      omega
  · rcases (show cc = e ∨ cc < e by omega) with z | z
    · subst z
      rw [sp_no (fun j hj q => by have := c.win j hj; omega), sp_no (P := fun t => cc ≤ t) (fun t ht q => by omega)]
      exact Rat.le_refl
    · have heb : e ≤ 200 := by have := hU (e - 1) (by omega) (by omega); omega
      exact Rat.le_trans (sp_le (fun j hj q => ⟨q.2, Rat.le_refl⟩) (fun j hj _ _ => Rat.intCast_nonneg.mpr (by have := c.wp j hj; omega))) (hd cc e hce heb)
theorem Cert.abel (c : Cert n r d w gs gj G W T) {x : Nat → Rat} (hx : ∀ t, t < 200 → 0 ≤ x t) (hd : Dem n r d w x) {f : Rat → Rat} (hf0 : f 0 = 0) (hf : ∀ u v, 0 ≤ u → u ≤ v → f u ≤ f v) :
    su (fun t => f (spd gs W T t) * spd gs W T t) 200 ≤ su (fun t => f (spd gs W T t) * x t) 200 := by
  have fn : ∀ u, 0 ≤ u → 0 ≤ f u := fun u hu => by have := hf 0 u Rat.le_refl hu; rwa [hf0] at this
  -- by groups
  have key : ∀ m : Nat, (m + 1 : Int) ≤ G → f (sdk W T m) * (sp (fun t => 0 ≤ gs t ∧ gs t < (m : Int) + 1) x 200 - sp (fun t => 0 ≤ gs t ∧ gs t < (m : Int) + 1) (spd gs W T) 200) ≤ sp (fun t => 0 ≤ gs t ∧ gs t < (m : Int) + 1) (fun t => f (spd gs W T t) * x t) 200 - sp (fun t => 0 ≤ gs t ∧ gs t < (m : Int) + 1) (fun t => f (spd gs W T t) * spd gs W T t) 200 := by
    have one : ∀ m : Nat, (m + 1 : Int) ≤ G → ∀ y : Nat → Rat, sp (fun t => gs t = m) (fun t => f (spd gs W T t) * y t) 200 = f (sdk W T m) * sp (fun t => gs t = m) y 200 := by
      intro m hm y
      have := sp_mul (P := fun t => gs t = m) (f := y) (c := f (sdk W T m)) (n := 200)
      rw [Rat.mul_comm, ← this]
      exact sp_congr (fun _ _ => Iff.rfl) (fun t ht q => by unfold spd; rw [if_neg (by omega), q, Rat.mul_comm])
    have spl : ∀ m : Nat, ∀ y : Nat → Rat, sp (fun t => 0 ≤ gs t ∧ gs t < ((m + 1 : Nat) : Int) + 1) y 200 = sp (fun t => 0 ≤ gs t ∧ gs t < (m : Int) + 1) y 200 + sp (fun t => gs t = ((m + 1 : Nat) : Int)) y 200 := fun m y => sp_split (fun t ht => by omega) (fun t ht q1 q2 => by omega)
    intro m
    induction m with
    | zero =>
      intro hm
      have e : ∀ y : Nat → Rat, sp (fun t => 0 ≤ gs t ∧ gs t < ((0 : Nat) : Int) + 1) y 200 = sp (fun t => gs t = ((0 : Nat) : Int)) y 200 := fun y => sp_congr (fun t ht => by omega) (fun _ _ _ => rfl)
      rw [e, e, e, e, one 0 hm, one 0 hm]
      grind
    | succ m ih =>
      intro hm
      have i1 := ih (by omega)
      have E0 : 0 ≤ sp (fun t => 0 ≤ gs t ∧ gs t < (m : Int) + 1) x 200 - sp (fun t => 0 ≤ gs t ∧ gs t < (m : Int) + 1) (spd gs W T) 200 := by
        have := c.first hx hd (m := m + 1) (by omega)
        have e : ∀ y : Nat → Rat, sp (fun t => 0 ≤ gs t ∧ gs t < ((m + 1 : Nat) : Int)) y 200 = sp (fun t => 0 ≤ gs t ∧ gs t < (m : Int) + 1) y 200 := fun y => sp_congr (fun t ht => by omega) (fun _ _ _ => rfl)
        rw [e, e] at this
        grind
      have mo : f (sdk W T ((m + 1 : Nat) : Int)) ≤ f (sdk W T m) := hf _ _ (Rat.le_of_lt (c.sp0 (by omega) (by omega))) (c.smono (by omega) (by omega))
      have pr := Rat.mul_le_mul_of_nonneg_right mo E0
      rw [spl, spl, spl, spl, one (m + 1) (by omega), one (m + 1) (by omega)]
      grind
  have tot : ∀ y : Nat → Rat, su (fun t => f (spd gs W T t) * y t) 200 = sp (fun t => 0 ≤ gs t) (fun t => f (spd gs W T t) * y t) 200 := by
    intro y
    have e2 : sp (fun t => True) (fun t => f (spd gs W T t) * y t) 200 = sp (fun t => 0 ≤ gs t) (fun t => f (spd gs W T t) * y t) 200 + sp (fun t => gs t < 0) (fun t => f (spd gs W T t) * y t) 200 :=
      sp_split (fun t ht => ⟨fun _ => by omega, fun _ => trivial⟩) (fun t ht q1 q2 => by omega)
    have e3 : sp (fun t => gs t < 0) (fun t => f (spd gs W T t) * y t) 200 = 0 := by
      rw [sp_congr (P := fun t => gs t < 0) (P' := fun t => gs t < 0) (h := fun _ => 0) (fun _ _ => Iff.rfl) (fun t ht q => by unfold spd; rw [if_pos q, hf0, Rat.zero_mul]), sp_c, Rat.zero_mul]
    rw [sp_all (fun _ _ => trivial)] at e2
    rw [e2, e3, Rat.add_zero]
  rw [tot, tot]
  rcases Int.lt_or_le 0 G with z | z
  · have k := key (G - 1).toNat (by omega)
    have e : ∀ y : Nat → Rat, sp (fun t => 0 ≤ gs t ∧ gs t < ((G - 1).toNat : Int) + 1) y 200 = sp (fun t => 0 ≤ gs t) y 200 := fun y => sp_congr (fun t ht => by have := c.gs0 t ht; omega) (fun _ _ _ => rfl)
    have E0 := c.first hx hd (m := G.toNat) (by omega)
    have e' : ∀ y : Nat → Rat, sp (fun t => 0 ≤ gs t ∧ gs t < ((G.toNat : Nat) : Int)) y 200 = sp (fun t => 0 ≤ gs t) y 200 := fun y => sp_congr (fun t ht => by have := c.gs0 t ht; omega) (fun _ _ _ => rfl)
    rw [e, e, e, e] at k
    rw [e', e'] at E0
    have f0 := fn (sdk W T ((G - 1).toNat : Int)) (Rat.le_of_lt (c.sp0 (by omega) (by omega)))
    have := Rat.mul_nonneg f0 (show 0 ≤ sp (fun t => 0 ≤ gs t) x 200 - sp (fun t => 0 ≤ gs t) (spd gs W T) 200 by grind)
    grind
  · rw [sp_no (P := fun t => 0 ≤ gs t) (fun t ht q => by have := c.gs0 t ht; omega), sp_no (P := fun t => 0 ≤ gs t) (fun t ht q => by have := c.gs0 t ht; omega)]
    exact Rat.le_refl
theorem Cert.spn (c : Cert n r d w gs gj G W T) {t : Nat} (ht : t < 200) : 0 ≤ spd gs W T t := by
  have := c.gs0 t ht
  unfold spd
  split
  · exact Rat.le_refl
  · exact Rat.le_of_lt (c.sp0 (by omega) (by omega))
theorem sq_nn {x : Rat} : 0 ≤ x * x := by
  rcases Rat.le_total (a := 0) (b := x) with h | h
  · exact Rat.mul_nonneg h h
  · have := Rat.mul_nonneg (a := -x) (b := -x) (by grind) (by grind)
    grind
theorem su_zero {f : Nat → Rat} : ∀ {n : Nat}, (∀ t, t < n → 0 ≤ f t) → su f n ≤ 0 → ∀ t, t < n → f t = 0 := by
  intro n
  induction n with
  | zero => intro _ _ t ht; omega
  | succ n ih =>
    intro h0 hs t ht
    have e : su f (n + 1) = su f n + f n := rfl
    have h1 : 0 ≤ su f n := by
      have := sp_nn (P := fun _ => True) (f := f) (n := n) (fun i hi _ => h0 i (by omega))
      rwa [sp_all (fun _ _ => trivial)] at this
    have h2 := h0 n (by omega)
    rcases (show t = n ∨ t < n by omega) with y | y
    · subst y; grind
    · exact ih (fun i hi => h0 i (by omega)) (by grind) t y
theorem su_add' {f h : Nat → Rat} {n : Nat} : su (fun i => f i + h i) n = su f n + su h n := by
  have := sp_add (P := fun _ => True) (f := f) (h := h) (n := n)
  rwa [sp_all (fun _ _ => trivial), sp_all (fun _ _ => trivial), sp_all (fun _ _ => trivial)] at this
theorem su_sub' {f h : Nat → Rat} {n : Nat} : su (fun i => f i - h i) n = su f n - su h n := by
  have := sp_sub (P := fun _ => True) (f := f) (h := h) (n := n)
  rwa [sp_all (fun _ _ => trivial), sp_all (fun _ _ => trivial), sp_all (fun _ _ => trivial)] at this
theorem su_le' {f h : Nat → Rat} {n : Nat} (q : ∀ i, i < n → f i ≤ h i) : su f n ≤ su h n := by
  have := sp_le (P := fun _ => True) (P' := fun _ => True) (f := f) (h := h) (n := n) (fun i hi _ => ⟨trivial, q i hi⟩) (fun i hi a _ => absurd trivial a)
  rwa [sp_all (fun _ _ => trivial), sp_all (fun _ _ => trivial)] at this
/-- there is just one such profile -/
theorem Cert.unique (c : Cert n r d w gs gj G W T) (c' : Cert n r d w gs' gj' G' W' T') : ∀ t, t < 200 → spd gs W T t = spd gs' W' T' t := by
  have a1 := c.abel (fun t ht => c'.spn ht) c'.dem (f := fun u => u) rfl (fun u v _ h => h)
  have a2 := c'.abel (fun t ht => c.spn ht) c.dem (f := fun u => u) rfl (fun u v _ h => h)
  have e : su (fun t => (spd gs W T t - spd gs' W' T' t) * (spd gs W T t - spd gs' W' T' t)) 200 = (su (fun t => spd gs W T t * spd gs W T t) 200 - su (fun t => spd gs W T t * spd gs' W' T' t) 200) + (su (fun t => spd gs' W' T' t * spd gs' W' T' t) 200 - su (fun t => spd gs' W' T' t * spd gs W T t) 200) := by
    rw [← su_sub', ← su_sub', ← su_add']
    exact su_congr (fun t ht => by grind)
  have z := su_zero (f := fun t => (spd gs W T t - spd gs' W' T' t) * (spd gs W T t - spd gs' W' T' t)) (n := 200) (fun t _ => sq_nn) (by rw [e]; grind)
  intro t ht
  have h := z t ht
  rcases Rat.mul_eq_zero.mp h with y | y <;> grind
/-- it costs least -/
theorem Cert.cheapest (c : Cert n r d w gs gj G W T) {x : Nat → Rat} (hx : ∀ t, t < 200 → 0 ≤ x t) (hd : Dem n r d w x) : su (fun t => spd gs W T t * spd gs W T t * spd gs W T t) 200 ≤ su (fun t => x t * x t * x t) 200 := by
  have a1 := c.abel hx hd (f := fun u => u * u) (by grind) (fun u v h0 h => by
    have h1 := Rat.mul_le_mul_of_nonneg_right h h0
    have h2 := Rat.mul_le_mul_of_nonneg_left h (Rat.le_trans h0 h)
    grind)
  have l : su (fun t => (spd gs W T t * spd gs W T t * x t) + (spd gs W T t * spd gs W T t * x t) + (spd gs W T t * spd gs W T t * x t)) 200 ≤ su (fun t => (x t * x t * x t) + ((spd gs W T t * spd gs W T t * spd gs W T t) + (spd gs W T t * spd gs W T t * spd gs W T t))) 200 := su_le' (fun t ht => by
    have s0 := c.spn ht
    have x0 := hx t ht
    generalize spd gs W T t = s at *
    generalize x t = y at *
    have q := Rat.mul_nonneg (sq_nn (x := y - s)) (show 0 ≤ y + s + s by grind)
    grind)
  rw [su_add', su_add', su_add', su_add'] at l
  grind
end CERT
