/-! the Natural: division after Knuth -/
section NA5
variable {g : GG} {D D0 D1 : DD} {a b c d : Nat} {v w : Int}
/-- the guess: from three digits u against two v -/
theorem guess_loop (ka : zk a = (0, 3, 0)) {top u2 u1 u0 v1 v0 : Int} (htop : 2 ≤ top ∧ top < 32) (h0 : D (a + 1) (top - 2) = u0) (d0 : 0 ≤ u0 ∧ u0 < BB) (d1 : 0 ≤ u1 ∧ u1 < BB) (d2 : 0 ≤ u2 ∧ u2 ≤ v1) (e1 : 1073741824 ≤ v1 ∧ v1 < BB) (e0 : 0 ≤ v0 ∧ v0 < BB) {z1 z7 z8 : VV} :
    ∀ (n : Nat) (x r k : Int), k + n = 3 → 0 ≤ k → x * v1 + r = u2 * BB + u1 → k * 1073741824 ≤ r → r < 3 * BB → (BB - 1 ≤ x ∨ (u2 * BB + u1) * BB + u0 < (x + 1) * (v1 * BB + v0)) → x ≤ 2 * BB →
    Sg g M_Na_guessMultiple (rL (fun x D' => D' = D ∧ x < BB ∧ 0 ≤ x ∧ x * (v1 * BB + v0) ≤ (u2 * BB + u1) * BB + u0 ∧ (x = BB - 1 ∨ (u2 * BB + u1) * BB + u0 < (x + 1) * (v1 * BB + v0)))) 99 [vR a, z1, vI top, vL v1, vU, vL v0, vU, z7, z8, vL x, vU, vL r, vU, vI k] [] D := by
  have hvv : 0 < v1 * BB + v0 := by simp only [BB]; omega
  have hu : 0 ≤ (u2 * BB + u1) * BB + u0 := by simp only [BB] at d1 ⊢; omega
  have x0 : ∀ x : Int, (BB - 1 ≤ x ∨ (u2 * BB + u1) * BB + u0 < (x + 1) * (v1 * BB + v0)) → 0 ≤ x := by
    intro x h
    rcases h with h | h
    · simp only [BB] at h; omega
    · rcases Int.lt_or_le x 0 with q | q
      · have : (x + 1) * (v1 * BB + v0) ≤ 0 := Int.mul_nonpos_of_nonpos_of_nonneg (by omega) (by omega)
        omega
      · exact q
  have big : ∀ x r : Int, x * v1 + r = u2 * BB + u1 → BB ≤ r → (BB - 1 ≤ x ∨ (u2 * BB + u1) * BB + u0 < (x + 1) * (v1 * BB + v0)) → x < BB ∧ x * (v1 * BB + v0) ≤ (u2 * BB + u1) * BB + u0 := by
    intro x r hx hr hg
    have hx0 := x0 x hg
    have hxB : x < BB := by
      rcases Int.lt_or_le x BB with q | q
      · exact q
      · have q1 : BB * v1 ≤ x * v1 := Int.mul_le_mul_of_nonneg_right q (by omega)
        have q2 : u2 * BB ≤ v1 * BB := Int.mul_le_mul_of_nonneg_right d2.2 (by decide)
        rw [Int.mul_comm BB] at q1
        omega
    refine ⟨hxB, ?_⟩
    have q3 : x * v0 ≤ (BB - 1) * v0 := Int.mul_le_mul_of_nonneg_right (by omega) e0.1
    have q4 : x * (v1 * BB + v0) = x * v1 * BB + x * v0 := by grind
    have q5 : x * v1 = u2 * BB + u1 - r := by omega
    rw [q4, q5]
    simp only [BB] at *
    omega
  intro n
  induction n generalizing z1 z7 z8 with
  | zero =>
    intro x r k hk hk0 hx hr hr2 hg hx2
    have hb := big x r hx (by simp only [BB]; omega) hg
    refine s_Na_guessMultiple_99 ka ⟨fun _ => retL ⟨rfl, hb.1, x0 x hg, hb.2, ?_⟩, fun q => by omega⟩
    rcases hg with h | h
    · exact Or.inl (by omega)
    · exact Or.inr h
  | succ n ih =>
    intro x r k hk hk0 hx hr hr2 hg hx2
    have hx0 := x0 x hg
    have hr0 : 0 ≤ r := by omega
    have next : ((BB - 1 ≤ x - 1) ∨ (u2 * BB + u1) * BB + u0 < (x - 1 + 1) * (v1 * BB + v0)) → r < BB → Sg g M_Na_guessMultiple (rL (fun x D' => D' = D ∧ x < BB ∧ 0 ≤ x ∧ x * (v1 * BB + v0) ≤ (u2 * BB + u1) * BB + u0 ∧ (x = BB - 1 ∨ (u2 * BB + u1) * BB + u0 < (x + 1) * (v1 * BB + v0)))) 150 [vR a, vU, vI top, vL v1, vU, vL v0, vU, vU, vU, vL x, vU, vL r, vU, vI k] [] D := by
      intro hg2 hrB
      simp only [BB] at e1 hrB hx2
      refine s_Na_guessMultiple_150 ka ⟨⟨by omega, by omega, by omega⟩, ih (x - 1) (r + v1) (k + 1) (by omega) (by omega) (by rw [Int.sub_mul]; omega) (by omega) (by simp only [BB]; omega) hg2 (by simp only [BB]; omega)⟩
    refine s_Na_guessMultiple_99 ka ⟨fun q => by omega, fun _ => ⟨fun q => ?_, fun q => ⟨fun q2 => ?_, fun q2 => ?_⟩⟩⟩
    · have hb := big x r hx (by simp only [BB]; omega) hg
      refine retL ⟨rfl, hb.1, hx0, hb.2, ?_⟩
      rcases hg with h | h
      · exact Or.inl (by omega)
      · exact Or.inr h
    · exact next (Or.inl (by simp only [BB]; omega)) (by simp only [BB]; omega)
    · have e : (2 : Int) ^ 31 = BB := by decide
      simp only [BB] at d0 d1 e1 e0
      have m1 : 0 ≤ x * v0 := Int.mul_nonneg hx0 e0.1
      have m2 : x * v0 ≤ 2147483647 * v0 := Int.mul_le_mul_of_nonneg_right (by omega) e0.1
      have heq : x * (v1 * BB + v0) = (u2 * BB + u1 - r) * BB + x * v0 := by rw [← hx]; grind
      refine ⟨⟨by omega, by rw [e]; simp only [BB]; omega, by omega, by omega, ⟨by rw [e]; simp only [BB]; omega, by rw [h0]; omega, 31, Or.inl ⟨Int.mul_emod_left _ _, by rw [h0, e]; simp only [BB]; omega⟩⟩, by rw [h0, e]; simp only [BB]; omega⟩, fun q3 => ?_, fun q3 => ?_⟩
      · rw [h0, e] at q3
        refine next (Or.inr ?_) (by simp only [BB]; omega)
        rw [show x - 1 + 1 = x by omega, heq]
        rw [Int.sub_mul]
        omega
      · rw [h0, e] at q3
        refine retL ⟨rfl, by simp only [BB]; omega, hx0, ?_, ?_⟩
        · rw [heq, Int.sub_mul]
          omega
        · rcases hg with h | h
          · exact Or.inl (by simp only [BB] at h ⊢; omega)
          · exact Or.inr h
theorem guess_ok (ka : zk a = (0, 3, 0)) (kb : zk b = (0, 3, 0)) {top n u2 u1 u0 v1 v0 : Int} (hn : D b 1 = n) (hn2 : 2 ≤ n ∧ n ≤ 32) (htop : 2 ≤ top ∧ top < 32) (h2 : D (a + 1) top = u2) (h1 : D (a + 1) (top - 1) = u1) (h0 : D (a + 1) (top - 2) = u0) (hv1 : D (b + 1) (n - 1) = v1) (hv0 : D (b + 1) (n - 2) = v0) (d0 : 0 ≤ u0 ∧ u0 < BB) (d1 : 0 ≤ u1 ∧ u1 < BB) (d2 : 0 ≤ u2 ∧ u2 ≤ v1) (e1 : 1073741824 ≤ v1 ∧ v1 < BB) (e0 : 0 ≤ v0 ∧ v0 < BB) :
    CL g M_Na_guessMultiple [vR a, vR b, vI top] D (fun x D' => D' = D ∧ x < BB ∧ 0 ≤ x ∧ x * (v1 * BB + v0) ≤ (u2 * BB + u1) * BB + u0 ∧ (x = BB - 1 ∨ (u2 * BB + u1) * BB + u0 < (x + 1) * (v1 * BB + v0))) := by
  have e : (2 : Int) ^ 31 = BB := by decide
  have hv0p : 0 < v1 := by omega
  have hU : 0 ≤ u2 * BB + u1 := by simp only [BB] at d1 ⊢; omega
  have hm := Int.mul_ediv_add_emod (u2 * BB + u1) v1
  have hr0 := Int.emod_nonneg (u2 * BB + u1) (show v1 ≠ 0 by omega)
  have hr1 := Int.emod_lt_of_pos (u2 * BB + u1) hv0p
  have hq0 : 0 ≤ (u2 * BB + u1) / v1 := Int.ediv_nonneg hU (by omega)
  have hq1 : (u2 * BB + u1) / v1 < 2 * BB := Int.ediv_lt_of_lt_mul hv0p (by
    have : u2 * BB ≤ v1 * BB := Int.mul_le_mul_of_nonneg_right d2.2 (by decide)
    simp only [BB] at *
    omega)
  refine CL.intro mc_Na_guessMultiple (Nat.le_of_ble_eq_true rfl) rfl (s_Na_guessMultiple_0 ka kb ⟨fun q => by omega, fun _ => ⟨fun q => by omega, fun _ => ⟨fun q => by omega, fun _ => ⟨⟨by omega, by omega⟩, fun _ => ?_, fun q => by rw [hn, hv1] at q; omega⟩⟩⟩⟩)
  rw [hn, hv1, hv0, h2, h1, e]
  simp only [BB] at d0 d1 d2 e1 e0
  refine ⟨⟨by omega, by omega, by omega, by omega, by omega, by simp only [BB]; omega, by omega, by omega, ⟨⟨by simp only [BB]; omega, d1.1, 31, Or.inl ⟨by rw [← e]; exact Int.mul_emod_left _ _, by rw [e]; exact d1.2⟩⟩, by simp only [BB]; omega⟩, ⟨hU, hv0p⟩, ⟨hU, hv0p⟩⟩, ?_⟩
  refine guess_loop ka htop h0 d0 d1 d2 e1 e0 3 _ _ 0 (by decide) (by decide) (by rw [Int.mul_comm]; exact hm) (by omega) (by simp only [BB] at hr1 ⊢; omega) (Or.inr ?_) (by omega)
  generalize (u2 * BB + u1) / v1 = x at hm hq0 ⊢
  generalize (u2 * BB + u1) % v1 = r at hm hr0 hr1 ⊢
  have q1 : u2 * BB + u1 + 1 ≤ (x + 1) * v1 := by rw [Int.add_mul, Int.one_mul, Int.mul_comm x]; omega
  have q2 : (u2 * BB + u1 + 1) * BB ≤ (x + 1) * v1 * BB := Int.mul_le_mul_of_nonneg_right q1 (by decide)
  have q3 : 0 ≤ (x + 1) * v0 := Int.mul_nonneg (by omega) e0.1
  have q4 : (x + 1) * (v1 * BB + v0) = (x + 1) * v1 * BB + (x + 1) * v0 := by grind
  rw [q4]
  simp only [BB] at *
  omega
/-- the digits of a from a place on -/
def wn (f : Int → Int) (x : Int) : Int → Int := fun j => f (x + j)
theorem wn_up {f : Int → Int} {x i r : Int} : wn (fun j => if j = x + i then r else f j) x = fun j => if j = i then r else wn f x j := by
  funext j
  show (if x + j = x + i then r else f (x + j)) = if j = i then r else f (x + j)
  by_cases h : j = i
  · rw [if_pos h, if_pos (by omega)]
  · rw [if_neg h, if_neg (by omega)]
theorem Ds_wn {f : Int → Int} {b x n : Int} (hx : 0 ≤ x) (hn : 0 ≤ n) : Ds f b (x + n) = Ds f b x + Ds (wn f x) b n * b ^ x.toNat := by
  refine zind (P := fun n => Ds f b (x + n) = Ds f b x + Ds (wn f x) b n * b ^ x.toNat) ?_ (fun k hk ih => ?_) n hn
  · rw [Int.add_zero, Ds_0]; simp
  · rw [← Int.add_assoc, Ds_s (by omega), ih, Ds_s hk, pw_add b hx hk]
    show _ + f (x + k) * _ = _ + (_ + f (x + k) * _) * _
    grind
theorem Dg_wn {f : Int → Int} {b x n : Int} (hx : 0 ≤ x) (h : Dg f b (x + n)) : Dg (wn f x) b n := fun i h1 h2 => h (x + i) (by omega) (by omega)
/-- what stays when the digits from x to x + n of a are changed -/
def Wo (D0 D : DD) (a : Nat) (x n : Int) : Prop := Ro D0 D a ∧ ∀ j, (j < x ∨ x + n < j) → D (a + 1) j = D0 (a + 1) j
theorem sub_loop (ka : zk a = (0, 3, 0)) (kb : zk b = (0, 3, 0)) (hba : b ≠ a) {x n top q : Int} {Q : Option VV → EE → DD → Prop} (hn : D1 b 1 = n) (hx : 0 ≤ x) (hn1 : 1 ≤ n ∧ x + n = top) (htop : top < 32) (hq : 0 ≤ q ∧ q < BB) (hdb : Dg (D1 (b + 1)) BB n) (hda : Dg (D1 (a + 1)) BB (top + 1)) {z9 z10 : VV}
    (hk : ∀ (cy : Int) (D : DD) (z9 z10 : VV), 0 ≤ cy → cy ≤ q → Wo D1 D a x (n - 1) → Dg (wn (D (a + 1)) x) BB n → Ds (wn (D (a + 1)) x) BB n + q * Ds (D1 (b + 1)) BB n = Ds (wn (D1 (a + 1)) x) BB n + cy * BB ^ n.toNat → Sg g M_Na_takeMultiple Q 55 [vR a, vR b, vI x, vI top, vL q, vU, vL cy, vU, vI n, z9, z10] [] D) :
    ∀ (m : Nat) (i cy : Int) (D : DD), i + m = n → 0 ≤ i → 0 ≤ cy → cy ≤ q → Wo D1 D a x (i - 1) → Dg (wn (D (a + 1)) x) BB i → Ds (wn (D (a + 1)) x) BB i + q * Ds (D1 (b + 1)) BB i = Ds (wn (D1 (a + 1)) x) BB i + cy * BB ^ i.toNat →
    Sg g M_Na_takeMultiple Q 55 [vR a, vR b, vI x, vI top, vL q, vU, vL cy, vU, vI i, z9, z10] [] D := by
  intro m
  induction m generalizing z9 z10 with
  | zero =>
    intro i cy D hm hi h1 h2 hw hd hv
    have : i = n := by omega
    subst this
    exact hk cy D _ _ h1 h2 hw hd hv
  | succ m ih =>
    intro i cy D hm hi h1 h2 hw hd hv
    have hb1 : D b = D1 b := hw.1 b (na_ne ka kb)
    have hb2 : D (b + 1) = D1 (b + 1) := hw.1 (b + 1) (fun q => hba (Nat.succ.inj q))
    have hbi := hdb i hi (by omega)
    have hai := hda (x + i) (by omega) (by omega)
    have hwi : D (a + 1) (x + i) = D1 (a + 1) (x + i) := hw.2 (x + i) (Or.inr (by omega))
    rw [← hb2] at hbi
    rw [← hwi] at hai
    have e : (2 : Int) ^ 31 = BB := by decide
    simp only [BB] at hbi hai hq
    have m1 : 0 ≤ q * D (b + 1) i := Int.mul_nonneg hq.1 hbi.1
    have m2 : q * D (b + 1) i ≤ q * 2147483647 := Int.mul_le_mul_of_nonneg_left (by omega) hq.1
    have hp := Int.mul_ediv_add_emod (cy + q * D (b + 1) i) BB
    have fin : ∀ (ng : Int) (D15 : DD) (z6 z7 z9 z10 : VV), D15 = zw D (a + 1) (x + i) ((D (a + 1) (x + i) - (cy + q * D (b + 1) i) % 2 ^ 31) % 2 ^ 31) → (0 ≤ ng ∧ ng ≤ 1) → (D (a + 1) (x + i) - (cy + q * D (b + 1) i) % 2 ^ 31) % 2 ^ 31 = D (a + 1) (x + i) - (cy + q * D (b + 1) i) % 2 ^ 31 + ng * BB →
        Sg g M_Na_takeMultiple Q 132 [vR a, vR b, vI x, vI top, vL q, vU, z6, z7, vI i, z9, z10] [vI ng, vL ((cy + q * D (b + 1) i) / 2 ^ 31)] D15 := by
      intro ng D15 z6 z7 z9 z10 e15 hng he
      rw [e] at he e15 ⊢
      have hq3 : (cy + q * D (b + 1) i) / BB ≤ q := by simp only [BB]; omega
      have hq4 : 0 ≤ (cy + q * D (b + 1) i) / BB := by simp only [BB]; omega
      have hle : (cy + q * D (b + 1) i) / BB + ng ≤ q := by
        rcases Int.lt_or_le ((cy + q * D (b + 1) i) / BB) q with z | z
        · omega
        · have z2 : (cy + q * D (b + 1) i) % BB = 0 := by simp only [BB] at *; omega
          rw [z2] at he
          simp only [BB] at *
          omega
      refine s_Na_takeMultiple_132 ka kb ⟨⟨by omega, by omega⟩, ?_⟩
      have r2 : D15 (a + 1) = fun j => if j = x + i then (D (a + 1) (x + i) - (cy + q * D (b + 1) i) % BB) % BB else D (a + 1) j := by rw [e15, zw_row]
      have hr : 0 ≤ (D (a + 1) (x + i) - (cy + q * D (b + 1) i) % BB) % BB ∧ (D (a + 1) (x + i) - (cy + q * D (b + 1) i) % BB) % BB < BB := by simp only [BB]; omega
      refine ih (i + 1) _ D15 (by omega) (by omega) (by omega) hle ⟨by rw [e15]; exact hw.1.st, fun j hj => ?_⟩ ?_ ?_
      · rw [r2]
        show (if j = x + i then _ else _) = _
        rw [if_neg (by omega)]
        exact hw.2 j (by omega)
      · rw [r2, wn_up]; exact Dg_up hd hr
      · rw [r2, wn_up, Ds_up hi, pw_s BB hi, Ds_s hi, Ds_s hi, he]
        show _ = _ + D1 (a + 1) (x + i) * _ + _
        rw [← hwi, ← hb2]
        rw [← hb2] at hv
        generalize (cy + q * D (b + 1) i) / BB = Q1 at hp hq3 hq4 hle ⊢
        generalize (cy + q * D (b + 1) i) % BB = R1 at hp he ⊢
        generalize BB ^ i.toNat = p at hv ⊢
        generalize D (a + 1) (x + i) = A1 at he ⊢
        generalize D (b + 1) i = B1 at hp ⊢
        generalize Ds (wn (D (a + 1)) x) BB i = S1 at hv ⊢
        generalize Ds (wn (D1 (a + 1)) x) BB i = S2 at hv ⊢
        generalize Ds (D (b + 1)) BB i = S3 at hv ⊢
        have h5 : (BB * Q1 + R1) * p = (cy + q * B1) * p := by rw [hp]
        grind
    refine s_Na_takeMultiple_55 ka kb ⟨fun q => by rw [hb1] at q; omega, fun _ => ⟨⟨by omega, by omega, by omega, by omega, by omega, by omega, by omega, by omega, by omega⟩, fun D15 e15 => ⟨fun c => fin 0 D15 _ _ _ _ e15 (by decide) ?_, fun c => fin 1 D15 _ _ _ _ e15 (by decide) ?_⟩⟩⟩
    · rw [e] at c ⊢
      simp only [BB] at c ⊢
      omega
    · rw [e] at c ⊢
      simp only [BB] at c ⊢
      omega
theorem back_loop (ka : zk a = (0, 3, 0)) (kb : zk b = (0, 3, 0)) (hba : b ≠ a) {x n top q l : Int} {Q : Option VV → EE → DD → Prop} (hn : D1 b 1 = n) (hx : 0 ≤ x) (hn1 : 1 ≤ n ∧ x + n = top) (htop : top < 32) (hdb : Dg (D1 (b + 1)) BB n) (hda : Dg (wn (D1 (a + 1)) x) BB n) (hl : -2147483648 ≤ l ∧ l < 0)
    (hk : ∀ (cy : Int) (D : DD), 0 ≤ cy → cy ≤ 1 → Wo D1 D a x (n - 1) → Dg (wn (D (a + 1)) x) BB n → Ds (wn (D (a + 1)) x) BB n + cy * BB ^ n.toNat = Ds (wn (D1 (a + 1)) x) BB n + Ds (D1 (b + 1)) BB n → Sg g M_Na_takeMultiple Q 242 [vR a, vR b, vI x, vI top, vL q, vU, vL cy, vU, vL (l + cy), vU, vI n] [] D) :
    ∀ (m : Nat) (i cy : Int) (D : DD), i + m = n → 0 ≤ i → 0 ≤ cy → cy ≤ 1 → Wo D1 D a x (i - 1) → Dg (wn (D (a + 1)) x) BB i → Ds (wn (D (a + 1)) x) BB i + cy * BB ^ i.toNat = Ds (wn (D1 (a + 1)) x) BB i + Ds (D1 (b + 1)) BB i →
    Sg g M_Na_takeMultiple Q 173 [vR a, vR b, vI x, vI top, vL q, vU, vL cy, vU, vL l, vU, vI i] [] D := by
  intro m
  induction m with
  | zero =>
    intro i cy D hm hi h1 h2 hw hd hv
    have : i = n := by omega
    subst this
    have hb1 : D b = D1 b := hw.1 b (na_ne ka kb)
    exact s_Na_takeMultiple_173 ka kb ⟨fun _ => ⟨by omega, hk cy D h1 h2 hw hd hv⟩, fun q => by rw [hb1] at q; omega⟩
  | succ m ih =>
    intro i cy D hm hi h1 h2 hw hd hv
    have hb1 : D b = D1 b := hw.1 b (na_ne ka kb)
    have hb2 : D (b + 1) = D1 (b + 1) := hw.1 (b + 1) (fun q => hba (Nat.succ.inj q))
    have hbi := hdb i hi (by omega)
    have hai := hda i hi (by omega)
    have hwi : D (a + 1) (x + i) = wn (D1 (a + 1)) x i := hw.2 (x + i) (Or.inr (by omega))
    rw [← hb2] at hbi
    rw [← hwi] at hai
    have e : (2 : Int) ^ 31 = BB := by decide
    simp only [BB] at hbi hai
    have hp := Int.mul_ediv_add_emod (cy + (D (a + 1) (x + i) + D (b + 1) i)) BB
    have hr : 0 ≤ (cy + (D (a + 1) (x + i) + D (b + 1) i)) % BB ∧ (cy + (D (a + 1) (x + i) + D (b + 1) i)) % BB < BB := by simp only [BB]; omega
    refine s_Na_takeMultiple_173 ka kb ⟨fun q => by rw [hb1] at q; omega, fun _ => ⟨⟨by omega, by omega, by omega, by omega, by omega, by omega, by rw [e]; simp only [BB] at hr ⊢; omega, by omega⟩, fun D11 e11 => ⟨by omega, ?_⟩⟩⟩
    rw [e] at e11 ⊢
    have r2 : D11 (a + 1) = fun j => if j = x + i then (cy + (D (a + 1) (x + i) + D (b + 1) i)) % BB else D (a + 1) j := by rw [e11, zw_row]
    refine ih (i + 1) _ D11 (by omega) (by omega) (by simp only [BB]; omega) (by simp only [BB]; omega) ⟨by rw [e11]; exact hw.1.st, fun j hj => ?_⟩ ?_ ?_
    · rw [r2]
      show (if j = x + i then _ else _) = _
      rw [if_neg (by omega)]
      exact hw.2 j (by omega)
    · rw [r2, wn_up]; exact Dg_up hd hr
    · rw [r2, wn_up, Ds_up hi, pw_s BB hi, Ds_s hi, Ds_s hi, ← hwi, ← hb2]
      rw [← hb2] at hv
      have hq := carry_eq (B := BB) hv hp
      rw [hq]
      grind
theorem Wo.tr {D0 D1 D2 : DD} {x n : Int} (h : Wo D0 D1 a x n) (h' : Wo D1 D2 a x n) : Wo D0 D2 a x n := ⟨fun q hq => (h'.1 q hq).trans (h.1 q hq), fun j hj => (h'.2 j hj).trans (h.2 j hj)⟩
theorem Wo.wide {D0 D1 : DD} {x n m : Int} (h : Wo D0 D1 a x n) (hm : n ≤ m) : Wo D0 D1 a x m := ⟨h.1, fun j hj => h.2 j (by omega)⟩
theorem take_ok (ka : zk a = (0, 3, 0)) (kb : zk b = (0, 3, 0)) (hba : b ≠ a) {x n U V : Int} (hn : D b 1 = n) (hx : 0 ≤ x) (hn2 : 2 ≤ n) (htop : x + n < 32) (hdb : Dg (D (b + 1)) BB n) (hnorm : 1073741824 ≤ D (b + 1) (n - 1)) (hda : Dg (D (a + 1)) BB (x + n + 1)) (hU : Ds (wn (D (a + 1)) x) BB (n + 1) = U) (hV : Ds (D (b + 1)) BB n = V) (hUV : U < BB * V) :
    CL g M_Na_takeMultiple [vR a, vR b, vI x] D (fun q D' => (0 ≤ q ∧ q < BB) ∧ Wo D D' a x n ∧ Dg (D' (a + 1)) BB (x + n + 1) ∧ ∃ R, Ds (wn (D' (a + 1)) x) BB (n + 1) = R ∧ U = q * V + R ∧ 0 ≤ R ∧ R < V) := by
  have hdw : Dg (wn (D (a + 1)) x) BB (n + 1) := Dg_wn hx (by rw [← Int.add_assoc]; exact hda)
  have t2 := hdw n (by omega) (by omega)
  have t1 := hdw (n - 1) (by omega) (by omega)
  have t0 := hdw (n - 2) (by omega) (by omega)
  have s1 := hdb (n - 1) (by omega) (by omega)
  have s0 := hdb (n - 2) (by omega) (by omega)
  have hP := pw_pos BB_pos (n - 2).toNat
  -- the two values by their leading digits
  have eU : U = ((wn (D (a + 1)) x n * BB + wn (D (a + 1)) x (n - 1)) * BB + wn (D (a + 1)) x (n - 2)) * BB ^ (n - 2).toNat + Ds (wn (D (a + 1)) x) BB (n - 2) := by
    rw [← hU, Ds_s (by omega)]
    rw [show Ds (wn (D (a + 1)) x) BB n = Ds (wn (D (a + 1)) x) BB ((n - 2) + 1 + 1) by rw [show n - 2 + 1 + 1 = n by omega], Ds_s (by omega), Ds_s (by omega), pw_s BB (by omega), show n - 2 + 1 = n - 1 by omega,
      show BB ^ n.toNat = BB ^ ((n - 2) + 1 + 1).toNat by rw [show n - 2 + 1 + 1 = n by omega], pw_s BB (by omega), pw_s BB (by omega)]
    grind
  have eV : V = (D (b + 1) (n - 1) * BB + D (b + 1) (n - 2)) * BB ^ (n - 2).toNat + Ds (D (b + 1)) BB (n - 2) := by
    rw [← hV]
    rw [show Ds (D (b + 1)) BB n = Ds (D (b + 1)) BB ((n - 2) + 1 + 1) by rw [show n - 2 + 1 + 1 = n by omega], Ds_s (by omega), Ds_s (by omega), pw_s BB (by omega), show n - 2 + 1 = n - 1 by omega]
    grind
  have lU := Ds_nn BB_pos (hdw.mono (m := n - 2) (by omega))
  have lU2 := Ds_lt BB_pos (hdw.mono (m := n - 2) (by omega))
  have lV := Ds_nn BB_pos (hdb.mono (m := n - 2) (by omega))
  have lV2 := Ds_lt BB_pos (hdb.mono (m := n - 2) (by omega))
  generalize hu2 : wn (D (a + 1)) x n = u2 at *
  generalize hu1 : wn (D (a + 1)) x (n - 1) = u1 at *
  generalize hu0 : wn (D (a + 1)) x (n - 2) = u0 at *
  generalize hv1 : D (b + 1) (n - 1) = v1 at *
  generalize hv0 : D (b + 1) (n - 2) = v0 at *
  generalize BB ^ (n - 2).toNat = P at *
  generalize Ds (wn (D (a + 1)) x) BB (n - 2) = Ul at *
  generalize Ds (D (b + 1)) BB (n - 2) = Vl at *
  have hV0 : 0 < V := by
    rw [eV]
    have : 1 * P ≤ (v1 * BB + v0) * P := Int.mul_le_mul_of_nonneg_right (by simp only [BB]; omega) (by omega)
    omega
  have hVn : V < BB ^ n.toNat := by rw [← hV]; exact Ds_lt BB_pos hdb
  have d2 : u2 ≤ v1 := by
    rcases Int.lt_or_le v1 u2 with q | q
    · have q1 : (v1 + 1) * BB * BB * P ≤ u2 * BB * BB * P := Int.mul_le_mul_of_nonneg_right (Int.mul_le_mul_of_nonneg_right (Int.mul_le_mul_of_nonneg_right (by omega) (by decide)) (by decide)) (by omega)
      have q2 : (v1 * BB + v0 + 1) * P ≤ (v1 + 1) * BB * P := Int.mul_le_mul_of_nonneg_right (by simp only [BB] at s0 ⊢; omega) (by omega)
      have q3 : V < (v1 * BB + v0 + 1) * P := by rw [eV, Int.add_mul (v1 * BB + v0) 1 P]; omega
      have q4 : BB * V ≤ BB * ((v1 + 1) * BB * P) := Int.mul_le_mul_of_nonneg_left (by omega) (by decide)
      have q5 : u2 * BB * BB * P ≤ U := by
        rw [eU]
        have z1 : 0 ≤ (u1 * BB + u0) * P := Int.mul_nonneg (by simp only [BB]; omega) (by omega)
        have z2 : ((u2 * BB + u1) * BB + u0) * P = u2 * BB * BB * P + (u1 * BB + u0) * P := by grind
        omega
      have q6 : BB * ((v1 + 1) * BB * P) = (v1 + 1) * BB * BB * P := by grind
      omega
    · exact q
  have hb2 : ∀ (D' : DD), Ro D D' a → D' b = D b ∧ D' (b + 1) = D (b + 1) := fun D' h => ⟨h b (na_ne ka kb), h (b + 1) (fun q => hba (Nat.succ.inj q))⟩
  refine CL.intro mc_Na_takeMultiple (Nat.le_of_ble_eq_true rfl) rfl (s_Na_takeMultiple_0 ka kb ⟨by omega, fun q => by omega, fun _ => ⟨fun q => by omega, fun _ => ⟨fun q => by omega, fun _ => ⟨⟨by omega, by omega⟩, fun _ => ?_, fun q => by rw [hn, hv1] at q; omega⟩⟩⟩⟩)
  rw [hn]
  refine (guess_ok ka kb (top := x + n) hn ⟨hn2, by omega⟩ ⟨by omega, htop⟩ hu2 (by rw [← hu1]; unfold wn; rw [show x + n - 1 = x + (n - 1) by omega]) (by rw [← hu0]; unfold wn; rw [show x + n - 2 = x + (n - 2) by omega]) hv1 hv0 t0 t1 ⟨t2.1, d2⟩ ⟨hnorm, s1.2⟩ s0).mono (fun q D' h => ?_)
  obtain ⟨rfl, hq1, hq0, hq2, hq3⟩ := h
  -- the guess is right or 1 too high
  have g1 : U < (q + 1) * V := by
    rcases hq3 with z | z
    · rw [z, show BB - 1 + 1 = BB by omega]; exact hUV
    · have z1 : ((u2 * BB + u1) * BB + u0 + 1) * P ≤ (q + 1) * (v1 * BB + v0) * P := Int.mul_le_mul_of_nonneg_right (by omega) (by omega)
      have z2 : (q + 1) * (v1 * BB + v0) * P ≤ (q + 1) * V := by
        rw [eV]
        have z3 : 0 ≤ (q + 1) * Vl := Int.mul_nonneg (by omega) lV
        have z4 : (q + 1) * ((v1 * BB + v0) * P + Vl) = (q + 1) * (v1 * BB + v0) * P + (q + 1) * Vl := by grind
        omega
      rw [Int.add_mul _ 1 P] at z1
      omega
  have g2 : (q - 1) * V ≤ U := by
    have z1 : q * (v1 * BB + v0) * P ≤ ((u2 * BB + u1) * BB + u0) * P := Int.mul_le_mul_of_nonneg_right hq2 (by omega)
    have z2 : q * Vl ≤ BB * P := by
      have y1 : q * Vl ≤ q * P := Int.mul_le_mul_of_nonneg_left (by omega) hq0
      have y2 : q * P ≤ BB * P := Int.mul_le_mul_of_nonneg_right (by omega) (by omega)
      omega
    have z3 : BB * P ≤ V := by
      rw [eV]
      have y1 : BB * P ≤ (v1 * BB + v0) * P := Int.mul_le_mul_of_nonneg_right (by simp only [BB]; omega) (by omega)
      omega
    have z4 : (q - 1) * V = q * (v1 * BB + v0) * P + q * Vl - V := by
      rw [Int.sub_mul, Int.one_mul]
      have : q * V = q * (v1 * BB + v0) * P + q * Vl := by rw [eV]; grind
      omega
    omega
  have hdwn := hdw.mono (m := n) (by omega)
  refine s_Na_takeMultiple_47 ka kb ?_
  refine sub_loop (D1 := D') ka kb hba hn hx ⟨by omega, rfl⟩ htop ⟨hq0, hq1⟩ hdb hda (fun cy D2 z9 z10 c1 c2 hw hd2 hv2 => ?_) n.toNat 0 0 D' (by omega) (by decide) (by decide) hq0 ⟨Ro.rf, fun _ _ => rfl⟩ (fun i _ _ => by omega) (by simp [Ds_0])
  obtain ⟨b1, b2⟩ := hb2 D2 hw.1
  have hUn : U = Ds (wn (D' (a + 1)) x) BB n + u2 * BB ^ n.toNat := by rw [← hU, Ds_s (by omega), hu2]
  have htopd : D2 (a + 1) (x + n) = u2 := by rw [hw.2 (x + n) (Or.inr (by omega))]; exact hu2
  have hnn2 := Ds_nn BB_pos hd2
  have hlt2 := Ds_lt BB_pos hd2
  have hPn := pw_pos BB_pos n.toNat
  rw [hV] at hv2
  have hsum : Ds (wn (D2 (a + 1)) x) BB n + (u2 - cy) * BB ^ n.toNat = U - q * V := by rw [Int.sub_mul]; omega
  simp only [BB] at t2 hq1
  have e : (2 : Int) ^ 31 = BB := by decide
  refine s_Na_takeMultiple_55 ka kb ⟨fun _ => ⟨⟨by omega, by rw [htopd]; omega⟩, fun z => ?_, fun z => ⟨by omega, ?_⟩⟩, fun z => by rw [b1, hn] at z; omega⟩
  · rw [htopd] at z ⊢
    refine s_Na_takeMultiple_242 ka ⟨⟨by rw [e]; simp only [BB]; omega, by omega⟩, fun D3 e3 => retL ⟨⟨hq0, by simp only [BB]; omega⟩, ?_⟩⟩
    have hm : (u2 - cy) % 2 ^ 31 = u2 - cy := by rw [e]; simp only [BB]; omega
    rw [hm] at e3
    have r2 : D3 (a + 1) = fun j => if j = x + n then u2 - cy else D2 (a + 1) j := by rw [e3, zw_row]
    have rw2 : wn (D3 (a + 1)) x = fun j => if j = n then u2 - cy else wn (D2 (a + 1)) x j := by rw [r2, wn_up]
    have hval : Ds (wn (D3 (a + 1)) x) BB (n + 1) = U - q * V := by rw [rw2, Ds_up (by omega)]; exact hsum
    refine ⟨⟨by rw [e3]; exact hw.1.st, fun j hj => ?_⟩, fun j j1 j2 => ?_, _, rfl, by rw [hval]; omega, ?_, ?_⟩
    · rw [r2]
      show (if j = x + n then _ else _) = _
      rw [if_neg (by omega)]
      exact hw.2 j (by omega)
    · rw [r2]
      show 0 ≤ (if j = x + n then _ else _) ∧ (if j = x + n then _ else _) < BB
      split
      · simp only [BB]; omega
      · rcases Int.lt_or_le j x with y | y
        · rw [hw.2 j (Or.inl y)]; exact hda j j1 j2
        · have := hd2 (j - x) (by omega) (by omega)
          unfold wn at this
          rwa [show x + (j - x) = j by omega] at this
    · rw [hval, ← hsum]
      have : 0 ≤ (u2 - cy) * BB ^ n.toNat := Int.mul_nonneg z (by omega)
      omega
    · rw [hval]
      rw [Int.add_mul, Int.one_mul] at g1
      omega
  · rw [htopd] at z ⊢
    refine back_loop (D1 := D2) ka kb hba (by rw [b1]; exact hn) hx ⟨by omega, rfl⟩ htop (by rw [b2]; exact hdb) hd2 ⟨by omega, by omega⟩ (fun cz D3 c3 c4 hw3 hd3 hv3 => ?_) n.toNat 0 0 D2 (by omega) (by decide) (by decide) (by decide) ⟨Ro.rf, fun _ _ => rfl⟩ (fun i _ _ => by omega) (by simp [Ds_0])
    rw [b2, hV] at hv3
    have hnn3 := Ds_nn BB_pos hd3
    have hlt3 := Ds_lt BB_pos hd3
    have hsum3 : Ds (wn (D3 (a + 1)) x) BB n + (u2 - cy + cz) * BB ^ n.toNat = U - (q - 1) * V := by
      rw [Int.sub_mul q, Int.one_mul, Int.add_mul]
      omega
    have hlow : U - (q - 1) * V < V := by
      have : (u2 - cy) * BB ^ n.toNat ≤ (-1) * BB ^ n.toNat := Int.mul_le_mul_of_nonneg_right (by omega) (by omega)
      rw [Int.sub_mul q, Int.one_mul]
      omega
    have hz0 : u2 - cy + cz = 0 := by
      rcases Int.lt_or_le (u2 - cy + cz) 0 with y | y
      · have : (u2 - cy + cz) * BB ^ n.toNat ≤ (-1) * BB ^ n.toNat := Int.mul_le_mul_of_nonneg_right (by omega) (by omega)
        omega
      · rcases Int.lt_or_le 0 (u2 - cy + cz) with y2 | y2
        · have : 1 * BB ^ n.toNat ≤ (u2 - cy + cz) * BB ^ n.toNat := Int.mul_le_mul_of_nonneg_right (by omega) (by omega)
          omega
        · omega
    rw [hz0]
    refine s_Na_takeMultiple_242 ka ⟨⟨by decide, by omega⟩, fun D4 e4 => retL ⟨⟨?_, by simp only [BB]; omega⟩, ?_⟩⟩
    · rcases Int.lt_or_le (q - 1) 0 with y | y
      · have hq00 : q = 0 := by omega
        subst hq00
        have : (u2 - cy) * BB ^ n.toNat ≤ (-1) * BB ^ n.toNat := Int.mul_le_mul_of_nonneg_right (by omega) (by omega)
        omega
      · exact y
    have hm : (0 : Int) % 2 ^ 31 = 0 := by decide
    rw [hm] at e4
    have r2 : D4 (a + 1) = fun j => if j = x + n then 0 else D3 (a + 1) j := by rw [e4, zw_row]
    have rw2 : wn (D4 (a + 1)) x = fun j => if j = n then 0 else wn (D3 (a + 1)) x j := by rw [r2, wn_up]
    have hval : Ds (wn (D4 (a + 1)) x) BB (n + 1) = U - (q - 1) * V := by rw [rw2, Ds_up (by omega), ← hsum3, hz0]
    refine ⟨⟨by rw [e4]; exact ((hw.tr hw3).1).st, fun j hj => ?_⟩, fun j j1 j2 => ?_, _, rfl, by rw [hval]; omega, by rw [hval]; omega, by rw [hval]; exact hlow⟩
    · rw [r2]
      show (if j = x + n then _ else _) = _
      rw [if_neg (by omega), hw3.2 j (by omega)]
      exact hw.2 j (by omega)
    · rw [r2]
      show 0 ≤ (if j = x + n then _ else _) ∧ (if j = x + n then _ else _) < BB
      split
      · decide
      · rcases Int.lt_or_le j x with y | y
        · rw [hw3.2 j (Or.inl y), hw.2 j (Or.inl y)]; exact hda j j1 j2
        · have := hd3 (j - x) (by omega) (by omega)
          unfold wn at this
          rwa [show x + (j - x) = j by omega] at this
end NA5
