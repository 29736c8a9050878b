/-! the Natural: small methods -/
theorem Ds_up {f : Int → Int} {b s r : Int} (hs : 0 ≤ s) : Ds (fun j => if j = s then r else f j) b (s + 1) = Ds f b s + r * b ^ s.toNat := by
  rw [Ds_s hs, if_pos rfl, Ds_congr (g := f) (fun i _ h => by rw [if_neg (by omega)])]
theorem Ds_upl {f : Int → Int} {b s r n : Int} (hn : n ≤ s) : Ds (fun j => if j = s then r else f j) b n = Ds f b n := Ds_congr fun i _ h => by rw [if_neg (by omega)]
theorem Dg_up {f : Int → Int} {b s r : Int} (h : Dg f b s) (hr : 0 ≤ r ∧ r < b) : Dg (fun j => if j = s then r else f j) b (s + 1) := by
  intro i h1 h2
  show 0 ≤ (if i = s then r else f i) ∧ (if i = s then r else f i) < b
  split
  · exact hr
  · exact h i h1 (by omega)
theorem a_ne (a : Nat) : a ≠ a + 1 := by omega
theorem a_ne' (a : Nat) : a + 1 ≠ a := by omega
def scmp (v w : Int) : Int := if v < w then -1 else if w < v then 1 else 0
/-- loose: the leading digits may be 0 -/
def NaL (D : DD) (a : Nat) (v : Int) : Prop := (0 ≤ D a 1 ∧ D a 1 ≤ 32) ∧ Dg (D (a + 1)) BB (D a 1) ∧ Ds (D (a + 1)) BB (D a 1) = v
theorem Na.loose {D : DD} {a : Nat} {v : Int} (h : Na D a v) : NaL D a v := ⟨h.1, h.2.1, h.2.2.2⟩
theorem mulpos {x y : Int} (hx : 0 ≤ x) (hy : 0 ≤ y) : 0 ≤ x * y := Int.mul_nonneg hx hy
section NA1
variable {g : GG} {D : DD} {a b : Nat} {v w : Int}
theorem isZero_ok (k : zk a = (0, 3, 0)) (h : Na D a v) : CI g M_Na_isZero [vR a] D (fun x D' => D' = D ∧ x = if v = 0 then 1 else 0) := by
  have h1 := h.pos
  have h2 := h.nn
  have h3 := h.1
  refine CI.intro mc_Na_isZero (Nat.le_of_ble_eq_true rfl) rfl (s_Na_isZero_0 k ⟨fun c => retI ⟨rfl, ?_⟩, fun c => retI ⟨rfl, ?_⟩⟩)
  · rw [if_neg (by omega)]
  · rw [if_pos (by omega)]
theorem isOne_ok (k : zk a = (0, 3, 0)) (h : Na D a v) : CI g M_Na_isOne [vR a] D (fun x D' => D' = D ∧ x = if v = 1 then 1 else 0) := by
  have h1 := h.pos
  have h2 := h.nn
  have h3 := h.1
  have h4 := h.2.2.2
  have e1 : D a 1 = 1 → v = D (a + 1) 0 := by
    intro q
    rw [← h4, q, show (1 : Int) = 0 + 1 from rfl, Ds_s (Int.le_refl 0), Ds_0]
    simp
  have e2 : v = 1 → D a 1 ≤ 1 := fun q => h.size_le (by omega) (by rw [q]; decide)
  refine CI.intro mc_Na_isOne (Nat.le_of_ble_eq_true rfl) rfl (s_Na_isOne_0 k ⟨fun c => retI ⟨rfl, ?_⟩, fun c => ⟨fun c2 => retI ⟨rfl, ?_⟩, fun c2 => retI ⟨rfl, ?_⟩⟩⟩)
  · rw [if_neg (by omega)]
  · rw [if_neg (by have := e1 c; omega)]
  · rw [if_pos (by have := e1 c; omega)]
theorem fitsLong_ok (k : zk a = (0, 3, 0)) (h : Na D a v) : CI g M_Na_fitsLong [vR a] D (fun x D' => D' = D ∧ x = if v < BB ^ 2 then 1 else 0) := by
  refine CI.intro mc_Na_fitsLong (Nat.le_of_ble_eq_true rfl) rfl (s_Na_fitsLong_0 k ⟨fun c => retI ⟨rfl, ?_⟩, fun c => retI ⟨rfl, ?_⟩⟩)
  · rw [if_neg]
    intro q
    have := h.size_le (k := 2) (by omega) q
    omega
  · rw [if_pos]
    exact Int.lt_of_lt_of_le h.lt (pw_le BB_ge (y := 2) (by omega))
theorem asLong_ok (k : zk a = (0, 3, 0)) (h : Na D a v) (hv : v < BB ^ 2) : CL g M_Na_asLong [vR a] D (fun x D' => D' = D ∧ x = v) := by
  have hs := h.size_le (k := 2) (by omega) hv
  have h1 := h.1
  have key : ∀ y0 x1 : Int, 0 ≤ x1 → x1 < BB → 0 ≤ y0 → y0 < BB → y0 * BB + x1 = v → Sg g M_Na_asLong (rL (fun x D' => D' = D ∧ x = v)) 38 [vR a, vL x1, vU, vU, vU] [vL y0] D := by
    intro y0 x1 a1 a2 a3 a4 a5
    have e : (2 : Int) ^ 31 = 2147483648 := by decide
    simp only [BB] at a2 a4 a5
    refine s_Na_asLong_38 ⟨⟨?_, ⟨?_, ?_⟩⟩, retL ⟨rfl, ?_⟩⟩
    · rw [e]; omega
    · refine ⟨by rw [e]; omega, a1, 31, Or.inl ⟨Int.mul_emod_left _ _, by rw [e]; exact a2⟩⟩
    · rw [e]; omega
    · rw [e]; exact a5
  have hd := h.2.1
  have d0 : D a 1 ≤ 0 → v = 0 := fun q => by have := h.2.2.2; rw [Ds_neg q] at this; omega
  have d1 : D a 1 = 1 → v = D (a + 1) 0 := fun q => by
    rw [← h.2.2.2, q, show (1 : Int) = 0 + 1 from rfl, Ds_s (Int.le_refl 0), Ds_0]
    simp
  have d2 : D a 1 = 2 → v = D (a + 1) 1 * BB + D (a + 1) 0 := fun q => by
    rw [← h.2.2.2, q, show (2 : Int) = 0 + 1 + 1 from rfl, Ds_s (by omega), Ds_s (Int.le_refl 0), Ds_0]
    simp
    rw [show BB ^ 1 = BB from rfl]
    omega
  refine CL.intro mc_Na_asLong (Nat.le_of_ble_eq_true rfl) rfl (s_Na_asLong_0 k ⟨fun c => s_Na_asLong_18 k ⟨fun c2 => ?_, fun c2 => ?_⟩, fun c => s_Na_asLong_18 k ⟨fun c2 => ?_, fun c2 => ?_⟩⟩)
  · exact key 0 0 (by decide) (by decide) (by decide) (by decide) (by have := d0 c; omega)
  · omega
  · have q1 := hd 0 (by omega) (by omega)
    exact key 0 _ q1.1 q1.2 (by decide) (by decide) (by have := d1 (by omega); omega)
  · have q1 := hd 0 (by omega) (by omega)
    have q2 := hd 1 (by omega) (by omega)
    exact key _ _ q1.1 q1.2 q2.1 q2.2 (d2 (by omega)).symm
theorem setSmall_loop (k0 : zk a = (0, 3, 0)) {P : DD → Prop} {z1 z2 : VV} {X : Int} : ∀ (k : Nat) (x : Int) (D : DD), 0 ≤ x → x < BB ^ k → D a 1 + k ≤ 32 → 0 ≤ D a 1 → Dg (D (a + 1)) BB (D a 1) → (D a 1 = 0 ∨ BB ^ (D a 1 - 1).toNat ≤ X) →
    Ds (D (a + 1)) BB (D a 1) + x * BB ^ (D a 1).toNat = X → (∀ D', Na D' a X → Fa D D' a → P D') → Sg g M_Na_setSmall (rV P) 7 [vR a, z1, z2, vL x, vU] [] D := by
  intro k
  induction k generalizing z1 z2 with
  | zero =>
    intro x D hx hlt hs h0 hd ht hv hP
    have hx0 : x = 0 := by have : BB ^ 0 = 1 := rfl; omega
    subst hx0
    exact s_Na_setSmall_7 k0 ⟨fun c => retV (hP D ⟨⟨h0, by omega⟩, hd, ht, by omega⟩ Fa.rf), fun c => absurd (Int.le_refl 0) c⟩
  | succ k ih =>
    intro x D hx hlt hs h0 hd ht hv hP
    refine s_Na_setSmall_7 k0 ⟨fun c => ?_, fun c => ⟨fun c2 => by omega, fun c2 => ⟨⟨by omega, by omega⟩, fun D5 e5 => ⟨?_, fun D8 e8 => ?_⟩⟩⟩⟩
    · have hx0 : x = 0 := by omega
      subst hx0
      exact retV (hP D ⟨⟨h0, by omega⟩, hd, ht, by omega⟩ Fa.rf)
    · rw [e5, zw_off (a_ne a)]; omega
    · have r1 : D8 a 1 = D a 1 + 1 := by rw [e8, zw_eq, e5, zw_off (a_ne a)]
      have r2 : D8 (a + 1) = fun j => if j = D a 1 then x % 2 ^ 31 else D (a + 1) j := by rw [e8, zw_off (a_ne' a), e5, zw_row]
      have e : (2 : Int) ^ 31 = 2147483648 := by decide
      have hb : BB ^ (k + 1) = BB ^ k * BB := Int.pow_succ _ _
      have hp := pw_pos BB_pos (D a 1).toNat
      refine ih (x / 2 ^ 31) D8 ?_ ?_ ?_ ?_ ?_ ?_ ?_ (fun D' n f => hP D' n (Fa.tr ?_ f))
      · rw [e]; omega
      · rw [e]; rw [hb] at hlt
        exact Int.ediv_lt_of_lt_mul (by decide) hlt
      · rw [r1]; omega
      · rw [r1]; omega
      · rw [r1, r2]; exact Dg_up hd (by rw [e]; simp only [BB]; omega)
      · rw [r1]
        refine Or.inr ?_
        rw [show D a 1 + 1 - 1 = D a 1 by omega, ← hv]
        have h1 := Ds_nn BB_pos hd
        have h2 : 1 * BB ^ (D a 1).toNat ≤ x * BB ^ (D a 1).toNat := Int.mul_le_mul_of_nonneg_right (by omega) (by omega)
        omega
      · rw [r1, r2, Ds_up h0, pw_s BB h0, ← hv]
        have hm := Int.mul_ediv_add_emod x (2 ^ 31)
        rw [e] at hm ⊢
        generalize x / 2147483648 = q at hm ⊢
        generalize x % 2147483648 = r at hm ⊢
        rw [← hm]
        grind
      · rw [e8, e5]; exact Fa.w1.tr Fa.w0
theorem setSmall_ok (k : zk a = (0, 3, 0)) {x : Int} (hx : 0 ≤ x) : CV g M_Na_setSmall [vR a, vL x] D (fun D' => Na D' a x ∧ Fa D D' a) := by
  refine CV.intro mc_Na_setSmall (Nat.le_of_ble_eq_true rfl) rfl (sg_ok fun h1 _ _ => s_Na_setSmall_0 k fun D1 e1 => ?_)
  have hr : R64 x := h1 (vL x) (List.mem_cons_of_mem _ List.mem_cons_self)
  have r1 : D1 a 1 = 0 := by rw [e1, zw_eq]
  refine setSmall_loop k (X := x) 3 x D1 hx (Int.lt_of_le_of_lt hr.2 (by decide)) (by rw [r1]; decide) (by rw [r1]; decide) (by rw [r1]; exact fun i _ _ => by omega) (Or.inl r1) ?_ (fun D' n f => ⟨n, Fa.tr (by rw [e1]; exact Fa.w0) f⟩)
  rw [r1, Ds_0]
  simp
theorem copyFrom_ok (ka : zk a = (0, 3, 0)) (kb : zk b = (0, 3, 0)) (h : Na D b v) : CV g M_Na_copyFrom [vR a, vR b] D (fun D' => Na D' a v ∧ Fa D D' a) := by
  have h1 := h.1
  refine CV.intro mc_Na_copyFrom (Nat.le_of_ble_eq_true rfl) rfl (s_Na_copyFrom_0 ka kb ⟨by omega, fun D2 e2 D4 e4 => retV ?_⟩)
  have n1 := na_ne ka kb
  have hb1 : D2 b 1 = D b 1 := by
    rw [e2]
    unfold zcp
    rw [if_neg (by intro q; exact n1 q.1)]
  have r1 : D4 a 1 = D b 1 := by rw [e4, zw_eq, hb1]
  have r2 : ∀ j, 0 ≤ j → j < D b 1 → D4 (a + 1) j = D (b + 1) j := by
    intro j j1 j2
    rw [e4, zw_off (a_ne' a), e2]
    unfold zcp
    rw [if_pos ⟨rfl, by omega, by omega⟩]
    rw [show (0 : Int) + (j - 0) = j by omega]
  refine ⟨⟨by rw [r1]; exact h.1, by rw [r1]; exact h.2.1.congr r2, by rw [r1]; exact h.2.2.1, by rw [r1, Ds_congr r2]; exact h.2.2.2⟩, fun c c1 c2 => ?_⟩
  rw [e4, zw_off c1, e2]
  funext j
  unfold zcp
  rw [if_neg (fun q => c2 q.1)]
theorem order_loop (ka : zk a = (0, 3, 0)) (kb : zk b = (0, 3, 0)) (ha : Na D a v) (hb : Na D b w) (hs : D a 1 = D b 1) : ∀ (n : Nat) (x : Int), x + 1 = n → x < D a 1 → (∀ i, x < i → i < D a 1 → D (a + 1) i = D (b + 1) i) →
    Sg g M_Na_order (rI (fun x D' => D' = D ∧ x = scmp v w)) 35 [vR a, vR b, vI x] [] D := by
  have h1 := ha.1
  intro n
  induction n with
  | zero =>
    intro x hn hx he
    refine s_Na_order_35 ka kb ⟨fun c => retI ⟨rfl, ?_⟩, fun c => by omega⟩
    have : v = w := by
      rw [← ha.2.2.2, ← hb.2.2.2, ← hs]
      exact Ds_congr fun i i1 i2 => he i (by omega) i2
    unfold scmp
    rw [if_neg (by omega), if_neg (by omega)]
  | succ n ih =>
    intro x hn hx he
    refine s_Na_order_35 ka kb ⟨fun c => by omega, fun c => ⟨⟨by omega, by omega⟩, fun c2 => ⟨by omega, ?_⟩, fun c2 => ⟨⟨by omega, by omega⟩, fun c3 => retI ⟨rfl, ?_⟩, fun c3 => retI ⟨rfl, ?_⟩⟩⟩⟩
    · refine ih (x + -1) (by omega) (by omega) (fun i i1 i2 => ?_)
      by_cases q : i = x
      · rw [q]; exact c2
      · exact he i (by omega) i2
    · have : w < v := by
        rw [← ha.2.2.2, ← hb.2.2.2, ← hs]
        exact Ds_cmp BB_pos (by rw [hs]; exact hb.2.1) ha.2.1 ⟨by omega, hx⟩ (fun i i1 i2 => (he i i1 i2).symm) (by omega)
      unfold scmp
      rw [if_neg (by omega), if_pos this]
    · have : v < w := by
        rw [← ha.2.2.2, ← hb.2.2.2, ← hs]
        exact Ds_cmp BB_pos ha.2.1 (by rw [hs]; exact hb.2.1) ⟨by omega, hx⟩ he (by omega)
      unfold scmp
      rw [if_pos this]
theorem order_ok (ka : zk a = (0, 3, 0)) (kb : zk b = (0, 3, 0)) (ha : Na D a v) (hb : Na D b w) : CI g M_Na_order [vR a, vR b] D (fun x D' => D' = D ∧ x = scmp v w) := by
  have h1 := ha.1
  have h2 := hb.1
  refine CI.intro mc_Na_order (Nat.le_of_ble_eq_true rfl) rfl (s_Na_order_0 ka kb ⟨fun c => ⟨by omega, ?_⟩, fun c => ⟨fun c2 => retI ⟨rfl, ?_⟩, fun c2 => retI ⟨rfl, ?_⟩⟩⟩)
  · exact order_loop ka kb ha hb c (D a 1).toNat (D a 1 - 1) (by omega) (by omega) (fun i i1 i2 => by omega)
  · have h3 : w < v := by
      rcases ha.2.2.1 with q | q
      · omega
      · exact Int.lt_of_lt_of_le hb.lt (Int.le_trans (pw_le BB_ge (by omega)) q)
    unfold scmp
    rw [if_neg (by omega), if_pos h3]
  · have h3 : v < w := by
      rcases hb.2.2.1 with q | q
      · omega
      · exact Int.lt_of_lt_of_le ha.lt (Int.le_trans (pw_le BB_ge (by omega)) q)
    unfold scmp
    rw [if_pos h3]
theorem push_ok (k : zk a = (0, 3, 0)) {x : Int} (hs : 0 ≤ D a 1) (hx : x ≤ 0 ∨ (D a 1 < 32 ∧ x < BB)) : CV g M_Na_push [vR a, vL x] D (fun D' => (x ≤ 0 ∧ D' = D) ∨ (0 < x ∧ D' a 1 = D a 1 + 1 ∧ (D' (a + 1) = fun j => if j = D a 1 then x else D (a + 1) j) ∧ Fa D D' a)) := by
  simp only [BB] at hx
  refine CV.intro mc_Na_push (Nat.le_of_ble_eq_true rfl) rfl (s_Na_push_0 k ⟨fun c => retV (Or.inl ⟨c, rfl⟩), fun c => ⟨fun c2 => by omega, fun c2 => ⟨⟨by omega, by omega⟩, fun D5 e5 => ⟨?_, fun D8 e8 => retV (Or.inr ⟨by omega, ?_, ?_, ?_⟩)⟩⟩⟩⟩)
  · rw [e5, zw_off (a_ne a)]; omega
  · rw [e8, zw_eq, e5, zw_off (a_ne a)]
  · rw [e8, zw_off (a_ne' a), e5, zw_row]
  · rw [e8, e5]; exact Fa.w1.tr Fa.w0
theorem trim_loop (k : zk a = (0, 3, 0)) {P : DD → Prop} : ∀ (n : Nat) (D : DD), D a 1 = n → NaL D a v → (∀ D', Na D' a v → D' (a + 1) = D (a + 1) → (∀ c, c ≠ a → D' c = D c) → P D') → Sg g M_Na_trim (rV P) 0 [vR a] [] D := by
  intro n
  induction n with
  | zero =>
    intro D hn h hP
    exact s_Na_trim_0 k ⟨fun c => retV (hP D ⟨h.1, h.2.1, Or.inl hn, h.2.2⟩ rfl (fun _ _ => rfl)), fun c => by omega⟩
  | succ n ih =>
    intro D hn h hP
    have h1 := h.1
    refine s_Na_trim_0 k ⟨fun c => by omega, fun c => ⟨⟨by omega, by omega⟩, fun c2 => retV (hP D ⟨h.1, h.2.1, Or.inr ?_, h.2.2⟩ rfl (fun _ _ => rfl)), fun c2 => ⟨by omega, fun D6 e6 => ?_⟩⟩⟩
    · rw [← h.2.2]
      exact Ds_ge BB_pos h.2.1 (by omega) c2
    · have r1 : D6 a 1 = D a 1 - 1 := by rw [e6, zw_eq]
      have r2 : D6 (a + 1) = D (a + 1) := by rw [e6, zw_off (a_ne' a)]
      refine ih D6 (by rw [r1]; omega) ⟨by rw [r1]; omega, by rw [r1, r2]; exact h.2.1.mono (by omega), ?_⟩ (fun D' n1 n2 n3 => hP D' n1 (by rw [n2, r2]) (fun c h1 => by rw [n3 c h1, e6, zw_off h1]))
      rw [r1, r2, ← h.2.2]
      have e : D a 1 = (D a 1 - 1) + 1 := by omega
      rw [show Ds (D (a + 1)) BB (D a 1) = Ds (D (a + 1)) BB ((D a 1 - 1) + 1) by rw [← e], Ds_s (by omega), c2]
      omega
theorem trim_ok (k : zk a = (0, 3, 0)) (h : NaL D a v) : CV g M_Na_trim [vR a] D (fun D' => Na D' a v ∧ D' (a + 1) = D (a + 1) ∧ ∀ c, c ≠ a → D' c = D c) :=
  CV.intro mc_Na_trim (Nat.le_of_ble_eq_true rfl) rfl (trim_loop k (D a 1).toNat D (by have := h.1; omega) h (fun D' n1 n2 n3 => ⟨n1, n2, n3⟩))
end NA1
