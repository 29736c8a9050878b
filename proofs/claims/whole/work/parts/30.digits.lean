/-! numbers by digits -/
def Ds (f : Int → Int) (b : Int) (x : Int) : Int := (List.range x.toNat).foldl (fun s (k : Nat) => s + f k * b ^ k) 0
theorem Ds_0 (f : Int → Int) (b : Int) : Ds f b 0 = 0 := rfl
theorem Ds_neg {f : Int → Int} {b x : Int} (h : x ≤ 0) : Ds f b x = 0 := by
  unfold Ds
  rw [show x.toNat = 0 by omega]
  rfl
theorem Ds_s {f : Int → Int} {b x : Int} (h : 0 ≤ x) : Ds f b (x + 1) = Ds f b x + f x * b ^ x.toNat := by
  unfold Ds
  rw [show (x + 1).toNat = x.toNat + 1 by omega, List.range_succ, List.foldl_append]
  simp only [List.foldl_cons, List.foldl_nil]
  rw [show ((x.toNat : Nat) : Int) = x by omega]
/-- induction along whole numbers from 0 on -/
theorem zind {P : Int → Prop} (h0 : P 0) (hs : ∀ x, 0 ≤ x → P x → P (x + 1)) : ∀ x, 0 ≤ x → P x := by
  intro x hx
  have key : ∀ n : Nat, P (n : Int) := by
    intro n
    induction n with
    | zero => exact h0
    | succ n ih => exact hs n (by omega) ih
  have := key x.toNat
  rwa [Int.toNat_of_nonneg hx] at this
theorem pw_s (b : Int) {x : Int} (h : 0 ≤ x) : b ^ (x + 1).toNat = b ^ x.toNat * b := by
  rw [show (x + 1).toNat = x.toNat + 1 by omega, Int.pow_succ]
theorem pw_pos {b : Int} (hb : 0 < b) (n : Nat) : 0 < b ^ n := Int.pow_pos hb
theorem pw_add (b : Int) {x y : Int} (hx : 0 ≤ x) (hy : 0 ≤ y) : b ^ (x + y).toNat = b ^ x.toNat * b ^ y.toNat := by
  rw [show (x + y).toNat = x.toNat + y.toNat by omega, Int.pow_add]
theorem pw_le {b : Int} (hb : 1 ≤ b) {x y : Int} (h : x ≤ y) : b ^ x.toNat ≤ b ^ y.toNat := by
  have : ∀ k n : Nat, b ^ n ≤ b ^ (n + k) := by
    intro k
    induction k with
    | zero => intro n; exact Int.le_refl _
    | succ k ih =>
      intro n
      have h1 := ih n
      have h2 := pw_pos (show 0 < b by omega) (n + k)
      rw [← Nat.add_assoc, Int.pow_succ]
      have : b ^ (n + k) * 1 ≤ b ^ (n + k) * b := Int.mul_le_mul_of_nonneg_left hb (by omega)
      omega
  have h2 := this (y.toNat - x.toNat) x.toNat
  rwa [show x.toNat + (y.toNat - x.toNat) = y.toNat by omega] at h2
theorem Ds_congr {f g : Int → Int} {b n : Int} (h : ∀ i, 0 ≤ i → i < n → f i = g i) : Ds f b n = Ds g b n := by
  rcases Int.le_total n 0 with hn | hn
  · rw [Ds_neg hn, Ds_neg hn]
  · revert h
    refine zind (P := fun n => (∀ i, 0 ≤ i → i < n → f i = g i) → Ds f b n = Ds g b n) (fun _ => rfl) (fun x hx ih h => ?_) n hn
    rw [Ds_s hx, Ds_s hx, ih (fun i h1 h2 => h i h1 (by omega)), h x hx (by omega)]
/-- digits within the base -/
def Dg (f : Int → Int) (b n : Int) : Prop := ∀ i, 0 ≤ i → i < n → 0 ≤ f i ∧ f i < b
theorem Dg.mono {f : Int → Int} {b n m : Int} (h : Dg f b n) (hm : m ≤ n) : Dg f b m := fun i h1 h2 => h i h1 (by omega)
theorem Dg.congr {f g : Int → Int} {b n : Int} (h : Dg f b n) (he : ∀ i, 0 ≤ i → i < n → g i = f i) : Dg g b n := fun i h1 h2 => by rw [he i h1 h2]; exact h i h1 h2
theorem Ds_nn {f : Int → Int} {b n : Int} (hb : 0 < b) (h : Dg f b n) : 0 ≤ Ds f b n := by
  rcases Int.le_total n 0 with hn | hn
  · rw [Ds_neg hn]; exact Int.le_refl _
  · revert h
    refine zind (P := fun n => Dg f b n → 0 ≤ Ds f b n) (fun _ => Int.le_refl _) (fun x hx ih h => ?_) n hn
    rw [Ds_s hx]
    have h1 := ih (h.mono (by omega))
    have h2 := Int.mul_nonneg (h x hx (by omega)).1 (Int.le_of_lt (pw_pos hb x.toNat))
    omega
theorem Ds_lt {f : Int → Int} {b n : Int} (hb : 0 < b) (h : Dg f b n) : Ds f b n < b ^ n.toNat := by
  rcases Int.le_total n 0 with hn | hn
  · rw [Ds_neg hn]; exact pw_pos hb _
  · revert h
    refine zind (P := fun n => Dg f b n → Ds f b n < b ^ n.toNat) (fun _ => pw_pos hb _) (fun x hx ih h => ?_) n hn
    rw [Ds_s hx, pw_s b hx]
    have h1 := ih (h.mono (by omega))
    have hd := h x hx (by omega)
    have hp := pw_pos hb x.toNat
    have h2 : f x * b ^ x.toNat ≤ (b - 1) * b ^ x.toNat := Int.mul_le_mul_of_nonneg_right (by omega) (by omega)
    rw [Int.sub_mul, Int.one_mul, Int.mul_comm b] at h2
    omega
/-- the leading digit by size -/
theorem Ds_ge {f : Int → Int} {b n : Int} (hb : 0 < b) (h : Dg f b n) (hn : 0 < n) (ht : f (n - 1) ≠ 0) : b ^ (n - 1).toNat ≤ Ds f b n := by
  have e : n = (n - 1) + 1 := by omega
  rw [show Ds f b n = Ds f b ((n - 1) + 1) by rw [← e], Ds_s (by omega)]
  have h1 := Ds_nn hb (h.mono (m := n - 1) (by omega))
  have hd := h (n - 1) (by omega) (by omega)
  have h2 : 1 * b ^ (n - 1).toNat ≤ f (n - 1) * b ^ (n - 1).toNat := Int.mul_le_mul_of_nonneg_right (by omega) (Int.le_of_lt (pw_pos hb _))
  omega
theorem Ds_top {f : Int → Int} {b n : Int} (hb : 0 < b) (h : Dg f b n) (hn : 0 < n) (hv : b ^ (n - 1).toNat ≤ Ds f b n) : f (n - 1) ≠ 0 := by
  intro h0
  have e : n = (n - 1) + 1 := by omega
  rw [show Ds f b n = Ds f b ((n - 1) + 1) by rw [← e], Ds_s (by omega), h0] at hv
  have := Ds_lt hb (h.mono (m := n - 1) (by omega))
  omega
/-- digits taken as 0 from a place on -/
def pd (f : Int → Int) (s : Int) : Int → Int := fun i => if i < s then f i else 0
theorem pd_dg {f : Int → Int} {b s : Int} (hb : 0 < b) (h : Dg f b s) (n : Int) : Dg (pd f s) b n := by
  intro i h1 h2
  unfold pd
  split
  · exact h i h1 (by omega)
  · omega
theorem Ds_pd {f : Int → Int} {b s n : Int} (hs : 0 ≤ s) (h : s ≤ n) : Ds (pd f s) b n = Ds f b s := by
  have key : ∀ k, 0 ≤ k → Ds (pd f s) b (s + k) = Ds f b s := by
    refine zind ?_ (fun k hk ih => ?_)
    · rw [Int.add_zero]
      exact Ds_congr fun i h1 h2 => by unfold pd; rw [if_pos h2]
    · rw [← Int.add_assoc, Ds_s (by omega), ih]
      unfold pd
      rw [if_neg (by omega)]
      omega
  have := key (n - s) (by omega)
  rwa [show s + (n - s) = n by omega] at this
/-- order by the first digit that differs from above -/
theorem Ds_cmp {f g : Int → Int} {b n x : Int} (hb : 0 < b) (hf : Dg f b n) (hg : Dg g b n) (hx : 0 ≤ x ∧ x < n) (he : ∀ i, x < i → i < n → f i = g i) (hl : f x < g x) : Ds f b n < Ds g b n := by
  have key : ∀ k, 0 ≤ k → x + 1 + k ≤ n → Ds f b (x + 1 + k) < Ds g b (x + 1 + k) := by
    refine zind (P := fun k => x + 1 + k ≤ n → Ds f b (x + 1 + k) < Ds g b (x + 1 + k)) (fun _ => ?_) (fun k hk ih h => ?_)
    · rw [Int.add_zero, Ds_s hx.1, Ds_s hx.1]
      have h1 := Ds_lt hb (hf.mono (m := x) (by omega))
      have h2 := Ds_nn hb (hg.mono (m := x) (by omega))
      have h3 : (f x + 1) * b ^ x.toNat ≤ g x * b ^ x.toNat := Int.mul_le_mul_of_nonneg_right (by omega) (Int.le_of_lt (pw_pos hb _))
      rw [Int.add_mul, Int.one_mul] at h3
      omega
    · rw [← Int.add_assoc, Ds_s (by omega), Ds_s (by omega), he (x + 1 + k) (by omega) (by omega)]
      have := ih (by omega)
      omega
  have := key (n - (x + 1)) (by omega) (by omega)
  rwa [show x + 1 + (n - (x + 1)) = n by omega] at this
/-! a number held by a Natural -/
abbrev BB : Int := 2147483648
def Na (D : DD) (a : Nat) (v : Int) : Prop := (0 ≤ D a 1 ∧ D a 1 ≤ 32) ∧ Dg (D (a + 1)) BB (D a 1) ∧ (D a 1 = 0 ∨ BB ^ (D a 1 - 1).toNat ≤ v) ∧ Ds (D (a + 1)) BB (D a 1) = v
theorem BB_pos : (0 : Int) < BB := by decide
theorem BB_ge : (1 : Int) ≤ BB := by decide
theorem Na.nn {D : DD} {a : Nat} {v : Int} (h : Na D a v) : 0 ≤ v := by rw [← h.2.2.2]; exact Ds_nn BB_pos h.2.1
theorem Na.lt {D : DD} {a : Nat} {v : Int} (h : Na D a v) : v < BB ^ (D a 1).toNat := by rw [← h.2.2.2]; exact Ds_lt BB_pos h.2.1
theorem Na.max {D : DD} {a : Nat} {v : Int} (h : Na D a v) : v < BB ^ 32 := by
  have h1 := h.lt
  have h2 := pw_le BB_ge (x := D a 1) (y := 32) h.1.2
  exact Int.lt_of_lt_of_le h1 h2
theorem Na.top {D : DD} {a : Nat} {v : Int} (h : Na D a v) (h0 : 0 < D a 1) : D (a + 1) (D a 1 - 1) ≠ 0 := by
  rcases h.2.2.1 with q | q
  · omega
  · exact Ds_top BB_pos h.2.1 h0 (by rw [h.2.2.2]; exact q)
theorem Na.pos {D : DD} {a : Nat} {v : Int} (h : Na D a v) : 0 < D a 1 ↔ 0 < v := by
  constructor
  · intro h0
    rcases h.2.2.1 with q | q
    · omega
    · have := pw_pos BB_pos (D a 1 - 1).toNat
      omega
  · intro hv
    have h1 := h.1.1
    rcases Int.lt_or_le 0 (D a 1) with q | q
    · exact q
    · have := h.2.2.2
      rw [Ds_neg q] at this
      omega
theorem Na.eq {D : DD} {a : Nat} {v w : Int} (h : Na D a v) (h' : Na D a w) : v = w := h.2.2.2.symm.trans h'.2.2.2
theorem Na.of {D D' : DD} {a : Nat} {v : Int} (h : Na D a v) (h0 : D' a = D a) (h1 : D' (a + 1) = D (a + 1)) : Na D' a v := by
  unfold Na
  rw [h0, h1]
  exact h
theorem Na.size_le {D : DD} {a : Nat} {v : Int} (h : Na D a v) {k : Int} (hk : 0 ≤ k) (hv : v < BB ^ k.toNat) : D a 1 ≤ k := by
  rcases Int.lt_or_le k (D a 1) with q | q
  · rcases h.2.2.1 with z | z
    · omega
    · have := pw_le BB_ge (x := k) (y := D a 1 - 1) (by omega)
      omega
  · exact q
/-- what a method that changes the Natural at a alone leaves -/
def Fa (D D' : DD) (a : Nat) : Prop := ∀ c, c ≠ a → c ≠ a + 1 → D' c = D c
theorem Fa.rf {D : DD} {a : Nat} : Fa D D a := fun _ _ _ => rfl
theorem Fa.tr {D D' D'' : DD} {a : Nat} (h : Fa D D' a) (h' : Fa D' D'' a) : Fa D D'' a := fun c h1 h2 => (h' c h1 h2).trans (h c h1 h2)
theorem Fa.w0 {D : DD} {a : Nat} {i x : Int} : Fa D (zw D a i x) a := fun _ h _ => zw_off h
theorem Fa.w1 {D : DD} {a : Nat} {i x : Int} : Fa D (zw D (a + 1) i x) a := fun _ _ h => zw_off h
theorem na_ne {a b : Nat} (ha : zk a = (0, 3, 0)) (hb : zk b = (0, 3, 0)) : b ≠ a + 1 := by
  intro h
  rw [h, zs_Na_digits ha] at hb
  cases hb
theorem Na.fa {D D' : DD} {a b : Nat} {v : Int} (h : Na D b v) (hf : Fa D D' a) (ha : zk a = (0, 3, 0)) (hb : zk b = (0, 3, 0)) (hab : b ≠ a) : Na D' b v :=
  h.of (hf b hab (na_ne ha hb)) (hf (b + 1) (fun q => na_ne hb ha q.symm) (fun q => hab (Nat.succ.inj q)))
