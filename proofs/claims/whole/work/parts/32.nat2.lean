/-! the Natural: add, takeOff, times, divideSmall, shifts -/
theorem Ds_set {f : Int → Int} {b x r n : Int} (hx : 0 ≤ x ∧ x < n) : Ds (fun j => if j = x then r else f j) b n = Ds f b n + (r - f x) * b ^ x.toNat := by
  have key : ∀ k, 0 ≤ k → Ds (fun j => if j = x then r else f j) b (x + 1 + k) = Ds f b (x + 1 + k) + (r - f x) * b ^ x.toNat := by
    refine zind ?_ (fun k hk ih => ?_)
    · rw [Int.add_zero, Ds_up hx.1, Ds_s hx.1, Int.sub_mul]
      omega
    · rw [← Int.add_assoc, Ds_s (by omega), ih, Ds_s (by omega), if_neg (by omega)]
      omega
  have := key (n - (x + 1)) (by omega)
  rwa [show x + 1 + (n - (x + 1)) = n by omega] at this
theorem Dg_set {f : Int → Int} {b x r n : Int} (h : Dg f b n) (hr : 0 ≤ r ∧ r < b) : Dg (fun j => if j = x then r else f j) b n := by
  intro i h1 h2
  show 0 ≤ (if i = x then r else f i) ∧ (if i = x then r else f i) < b
  split
  · exact hr
  · exact h i h1 h2
theorem pd_in {f : Int → Int} {b s : Int} (hb : 0 < b) (h : Dg f b s) {i : Int} (hi : 0 ≤ i) : 0 ≤ pd f s i ∧ pd f s i < b := by
  unfold pd
  split
  · exact h i hi (by omega)
  · omega
theorem carry_eq {c y r q B p S T : Int} (h : S + c * p = T) (hm : B * q + r = c + y) : S + r * p + q * (p * B) = T + y * p := by
  have : r * p + q * (p * B) = (c + y) * p := by rw [← hm]; grind
  have h2 : (c + y) * p = c * p + y * p := Int.add_mul _ _ _
  omega
section NA2
variable {g : GG} {D D0 : DD} {a b : Nat} {v w : Int}
theorem add_loop (ka : zk a = (0, 3, 0)) (kb : zk b = (0, 3, 0)) (hab : b ≠ a) (ha : Na D0 a v) (hb : Na D0 b w) (hvw : v + w < BB ^ 32) {m : Int} (hm : m = max (D0 a 1) (D0 b 1)) {z6 z7 z8 z9 : VV} : ∀ (n : Nat) (x c : Int) (D : DD), x + n = m → 0 ≤ x → (0 ≤ c ∧ c ≤ 1) → D a = D0 a → Fa D0 D a → (∀ j, x ≤ j → D (a + 1) j = D0 (a + 1) j) → Dg (D (a + 1)) BB x →
    Ds (D (a + 1)) BB x + c * BB ^ x.toNat = Ds (pd (D0 (a + 1)) (D0 a 1)) BB x + Ds (pd (D0 (b + 1)) (D0 b 1)) BB x →
    Sg g M_Na_add (rV (fun D' => Na D' a (v + w) ∧ Fa D0 D' a)) 17 [vR a, vR b, vI m, vL c, vU, vI x, z6, z7, z8, z9] [] D := by
  have a1 := ha.1
  have b1 := hb.1
  intro n
  induction n generalizing z6 z7 z8 z9 with
  | zero =>
    intro x c D hn hx hc hs hf hj hd hv
    have hxm : x = m := by omega
    subst hxm
    have e1 : Ds (pd (D0 (a + 1)) (D0 a 1)) BB x = v := by rw [Ds_pd a1.1 (by omega)]; exact ha.2.2.2
    have e2 : Ds (pd (D0 (b + 1)) (D0 b 1)) BB x = w := by rw [Ds_pd b1.1 (by omega)]; exact hb.2.2.2
    rw [e1, e2] at hv
    have hlow : x = 0 ∨ BB ^ (x - 1).toNat ≤ v + w := by
      have nv := ha.nn
      have nw := hb.nn
      rcases (show x = D0 a 1 ∨ x = D0 b 1 by omega) with q | q
      · rcases ha.2.2.1 with z | z
        · omega
        · rw [q]; exact Or.inr (by omega)
      · rcases hb.2.2.1 with z | z
        · omega
        · rw [q]; exact Or.inr (by omega)
    refine s_Na_add_17 ka kb ⟨fun _ D2 e2 => ?_, fun q => by omega⟩
    have r1 : D2 a 1 = x := by rw [e2, zw_eq]
    have r2 : D2 (a + 1) = D (a + 1) := by rw [e2, zw_off (a_ne' a)]
    have f2 : Fa D0 D2 a := hf.tr (by rw [e2]; exact Fa.w0)
    have hpx := pw_pos BB_pos x.toNat
    have hnn := Ds_nn BB_pos hd
    refine (push_ok ka (D := D2) (by rw [r1]; exact hx) ?_).mono (fun D' h => s_Na_add_111 (retV ?_))
    · rcases (show c = 0 ∨ c = 1 by omega) with q | q
      · exact Or.inl (by omega)
      · refine Or.inr ⟨?_, by rw [q]; decide⟩
        rw [r1]
        rcases Int.lt_or_le x 32 with z | z
        · exact z
        · have := pw_le BB_ge (x := 32) (y := x) z
          subst q
          have e : BB ^ (32 : Int).toNat = BB ^ 32 := rfl
          omega
    · rcases h with ⟨q, rfl⟩ | ⟨q, q1, q2, q3⟩
      · have hc0 : c = 0 := by omega
        subst hc0
        refine ⟨⟨by rw [r1]; omega, by rw [r1, r2]; exact hd, by rw [r1]; exact hlow, by rw [r1, r2]; omega⟩, f2⟩
      · have hc1 : c = 1 := by omega
        subst hc1
        refine ⟨⟨?_, ?_, Or.inr ?_, ?_⟩, f2.tr q3⟩
        · rw [q1, r1]
          refine ⟨by omega, ?_⟩
          rcases Int.lt_or_le x 32 with z | z
          · omega
          · have := pw_le BB_ge (x := 32) (y := x) z
            have e : BB ^ (32 : Int).toNat = BB ^ 32 := rfl
            omega
        · rw [q1, q2, r1, r2]; exact Dg_up hd (by decide)
        · rw [q1, r1, show x + 1 - 1 = x by omega]; omega
        · rw [q1, q2, r1, r2, Ds_up hx]; omega
  | succ n ih =>
    intro x c D hn hx hc hs hf hj hd hv
    have rb : D b = D0 b := hf b hab (na_ne ka kb)
    have rb1 : D (b + 1) = D0 (b + 1) := hf (b + 1) (fun q => na_ne kb ka q.symm) (fun q => hab (Nat.succ.inj q))
    have hx32 : x < 32 := by omega
    have mid : ∀ y0 y1 : Int, y0 = pd (D0 (a + 1)) (D0 a 1) x → y1 = pd (D0 (b + 1)) (D0 b 1) x → Sg g M_Na_add (rV (fun D' => Na D' a (v + w) ∧ Fa D0 D' a)) 67 [vR a, vR b, vI m, vL c, vU, vI x, vL y0, vU, vU, vU] [vL y1] D := by
      intro y0 y1 h0 h1
      have p0 := pd_in BB_pos ha.2.1 hx
      have p1 := pd_in BB_pos hb.2.1 hx
      rw [← h0] at p0
      rw [← h1] at p1
      have e : (2 : Int) ^ 31 = BB := by decide
      simp only [BB] at p0 p1
      refine s_Na_add_67 ka kb ⟨⟨by omega, by omega, ?_, by omega⟩, fun D5 e5 => ⟨by omega, ?_⟩⟩
      · rw [e]; simp only [BB]; omega
      · have r2 : D5 (a + 1) = fun j => if j = x then (c + (y0 + y1)) % 2 ^ 31 else D (a + 1) j := by rw [e5, zw_row]
        have r0 : D5 a = D a := by rw [e5, zw_off (a_ne a)]
        have hr : 0 ≤ (c + (y0 + y1)) % 2 ^ 31 ∧ (c + (y0 + y1)) % 2 ^ 31 < BB := by rw [e]; simp only [BB]; omega
        refine ih (x + 1) ((c + (y0 + y1)) / 2 ^ 31) D5 (by omega) (by omega) ?_ (by rw [r0, hs]) (hf.tr (by rw [e5]; exact Fa.w1)) (fun j q => ?_) ?_ ?_
        · rw [e]; simp only [BB]; omega
        · rw [r2]
          show (if j = x then _ else _) = _
          rw [if_neg (by omega)]
          exact hj j (by omega)
        · rw [r2]; exact Dg_up hd hr
        · rw [r2, Ds_up hx, pw_s BB hx, Ds_s hx, Ds_s hx, ← h0, ← h1]
          have hm2 := Int.mul_ediv_add_emod (c + (y0 + y1)) (2 ^ 31)
          have hq := carry_eq (B := BB) hv (by rw [← e]; exact hm2)
          rw [hq, Int.add_mul]
          omega
    have hsa : D a 1 = D0 a 1 := by rw [hs]
    have hsb : D b 1 = D0 b 1 := by rw [rb]
    have hja : D (a + 1) x = D0 (a + 1) x := hj x (Int.le_refl x)
    refine s_Na_add_17 ka kb ⟨fun q => by omega, fun q => ⟨fun c2 => s_Na_add_44 ka kb ⟨fun c3 => ?_, fun c3 => ⟨by omega, ?_⟩⟩, fun c2 => ⟨by omega, s_Na_add_44 ka kb ⟨fun c3 => ?_, fun c3 => ⟨by omega, ?_⟩⟩⟩⟩⟩
    · exact mid 0 0 (by unfold pd; rw [if_neg (by omega)]) (by unfold pd; rw [if_neg (by omega)])
    · exact mid 0 _ (by unfold pd; rw [if_neg (by omega)]) (by unfold pd; rw [if_pos (by omega), rb1])
    · exact mid _ 0 (by unfold pd; rw [if_pos (by omega), hja]) (by unfold pd; rw [if_neg (by omega)])
    · exact mid _ _ (by unfold pd; rw [if_pos (by omega), hja]) (by unfold pd; rw [if_pos (by omega), rb1])
theorem add_ok (ka : zk a = (0, 3, 0)) (kb : zk b = (0, 3, 0)) (hab : b ≠ a) (ha : Na D a v) (hb : Na D b w) (hvw : v + w < BB ^ 32) : CV g M_Na_add [vR a, vR b] D (fun D' => Na D' a (v + w) ∧ Fa D D' a) := by
  have a1 := ha.1
  have b1 := hb.1
  refine CV.intro mc_Na_add (Nat.le_of_ble_eq_true rfl) rfl (s_Na_add_0 ka kb (add_loop ka kb hab ha hb hvw rfl (max (D a 1) (D b 1)).toNat 0 0 D (by omega) (by decide) (by decide) rfl Fa.rf (fun _ _ => rfl) (fun i _ _ => by omega) ?_))
  simp [Ds_0]
theorem takeOff_loop (ka : zk a = (0, 3, 0)) (kb : zk b = (0, 3, 0)) (hab : b ≠ a) (ha : Na D0 a v) (hb : Na D0 b w) (hvw : w ≤ v) {z5 z6 z7 z8 : VV} : ∀ (n : Nat) (x c : Int) (D : DD), x + n = D0 a 1 → 0 ≤ x → (0 ≤ c ∧ c ≤ 1) → D a = D0 a → Fa D0 D a → (∀ j, x ≤ j → D (a + 1) j = D0 (a + 1) j) → Dg (D (a + 1)) BB x →
    Ds (D (a + 1)) BB x - c * BB ^ x.toNat = Ds (D0 (a + 1)) BB x - Ds (pd (D0 (b + 1)) (D0 b 1)) BB x →
    Sg g M_Na_takeOff (rV (fun D' => Na D' a (v - w) ∧ Fa D0 D' a)) 5 [vR a, vR b, vL c, vU, vI x, z5, z6, z7, z8] [] D := by
  have a1 := ha.1
  have b1 := hb.1
  intro n
  induction n generalizing z5 z6 z7 z8 with
  | zero =>
    intro x c D hn hx hc hs hf hj hd hv
    have hxm : x = D0 a 1 := by omega
    have hba : D0 b 1 ≤ D0 a 1 := hb.size_le a1.1 (Int.lt_of_le_of_lt hvw ha.lt)
    have e2 : Ds (pd (D0 (b + 1)) (D0 b 1)) BB x = w := by rw [Ds_pd b1.1 (by omega)]; exact hb.2.2.2
    have hsa : D a 1 = D0 a 1 := by rw [hs]
    rw [e2, show Ds (D0 (a + 1)) BB x = v by rw [hxm]; exact ha.2.2.2] at hv
    have hlt := Ds_lt BB_pos hd
    have hpx := pw_pos BB_pos x.toNat
    have hc0 : c = 0 := by
      rcases (show c = 0 ∨ c = 1 by omega) with q | q
      · exact q
      · subst q; omega
    subst hc0
    refine s_Na_takeOff_5 ka kb ⟨fun _ => ?_, fun q => by omega⟩
    refine (trim_ok ka (v := v - w) ⟨by omega, by rw [hsa, ← hxm]; exact hd, by rw [hsa, ← hxm]; omega⟩).mono (fun D' h => s_Na_takeOff_89 (retV ⟨h.1, hf.tr (fun c q1 q2 => h.2.2 c q1)⟩))
  | succ n ih =>
    intro x c D hn hx hc hs hf hj hd hv
    have rb : D b = D0 b := hf b hab (na_ne ka kb)
    have rb1 : D (b + 1) = D0 (b + 1) := hf (b + 1) (fun q => na_ne kb ka q.symm) (fun q => hab (Nat.succ.inj q))
    have hsa : D a 1 = D0 a 1 := by rw [hs]
    have hsb : D b 1 = D0 b 1 := by rw [rb]
    have hja : D (a + 1) x = D0 (a + 1) x := hj x (Int.le_refl x)
    have hda := ha.2.1 x hx (by omega)
    have e : (2 : Int) ^ 31 = BB := by decide
    have mid : ∀ y : Int, y = pd (D0 (b + 1)) (D0 b 1) x → Sg g M_Na_takeOff (rV (fun D' => Na D' a (v - w) ∧ Fa D0 D' a)) 35 [vR a, vR b, vL c, vU, vI x, vU, vU, vU, vU] [vL y] D := by
      intro y h0
      have p0 := pd_in BB_pos hb.2.1 hx
      rw [← h0] at p0
      simp only [BB] at p0 hda
      have fin : ∀ c' : Int, (0 ≤ c' ∧ c' ≤ 1) → D0 (a + 1) x - y - c = ((D (a + 1) x) - y - c) % 2 ^ 31 - c' * BB → Sg g M_Na_takeOff (rV (fun D' => Na D' a (v - w) ∧ Fa D0 D' a)) 64 [vR a, vR b, vL c, vU, vI x, vL y, vU, vL ((D (a + 1) x) - y - c), vU] [vL c'] D := by
        intro c' hc' he
        have hr : 0 ≤ ((D (a + 1) x) - y - c) % 2 ^ 31 ∧ ((D (a + 1) x) - y - c) % 2 ^ 31 < BB := by rw [e]; simp only [BB]; omega
        refine s_Na_takeOff_64 ka kb ⟨⟨by simp only [BB] at hr; omega, by omega⟩, fun D3 e3 => ⟨by omega, ?_⟩⟩
        have r2 : D3 (a + 1) = fun j => if j = x then ((D (a + 1) x) - y - c) % 2 ^ 31 else D (a + 1) j := by rw [e3, zw_row]
        have r0 : D3 a = D a := by rw [e3, zw_off (a_ne a)]
        refine ih (x + 1) c' D3 (by omega) (by omega) hc' (by rw [r0, hs]) (hf.tr (by rw [e3]; exact Fa.w1)) (fun j q => ?_) ?_ ?_
        · rw [r2]
          show (if j = x then _ else _) = _
          rw [if_neg (by omega)]
          exact hj j (by omega)
        · rw [r2]; exact Dg_up hd hr
        · rw [r2, Ds_up hx, pw_s BB hx, Ds_s hx, Ds_s hx, ← h0]
          generalize ((D (a + 1) x) - y - c) % 2 ^ 31 = r at he hr ⊢
          generalize BB ^ x.toNat = p at hv ⊢
          generalize Ds (D (a + 1)) BB x = S at hv ⊢
          generalize Ds (D0 (a + 1)) BB x = T at hv ⊢
          generalize Ds (pd (D0 (b + 1)) (D0 b 1)) BB x = U at hv ⊢
          generalize D0 (a + 1) x = d at he ⊢
          have h5 : (d - y - c) * p = (r - c' * BB) * p := by rw [he]
          grind
      refine s_Na_takeOff_35 ka kb ⟨⟨by omega, by omega, by omega⟩, fun q => ?_, fun q => ?_⟩
      · refine fin 0 (by decide) ?_
        rw [e, hja]
        simp only [BB]
        omega
      · refine fin 1 (by decide) ?_
        rw [e, hja]
        simp only [BB]
        omega
    refine s_Na_takeOff_5 ka kb ⟨fun q => by omega, fun q => ⟨fun c2 => ?_, fun c2 => ⟨by omega, ?_⟩⟩⟩
    · exact mid 0 (by unfold pd; rw [if_neg (by omega)])
    · exact mid _ (by unfold pd; rw [if_pos (by omega), rb1])
theorem takeOff_ok (ka : zk a = (0, 3, 0)) (kb : zk b = (0, 3, 0)) (hab : b ≠ a) (ha : Na D a v) (hb : Na D b w) (hvw : w ≤ v) : CV g M_Na_takeOff [vR a, vR b] D (fun D' => Na D' a (v - w) ∧ Fa D D' a) := by
  have a1 := ha.1
  refine CV.intro mc_Na_takeOff (Nat.le_of_ble_eq_true rfl) rfl (s_Na_takeOff_0 ka kb (takeOff_loop ka kb hab ha hb hvw (D a 1).toNat 0 0 D (by omega) (by decide) (by decide) rfl Fa.rf (fun _ _ => rfl) (fun i _ _ => by omega) ?_))
  simp [Ds_0]
theorem lt32 {x : Int} (h : BB ^ x.toNat < BB ^ 32) : x < 32 := by
  rcases Int.lt_or_le x 32 with z | z
  · exact z
  · have := pw_le BB_ge (x := 32) (y := x) z
    have e : BB ^ (32 : Int).toNat = BB ^ 32 := rfl
    omega
theorem times_loop (ka : zk a = (0, 3, 0)) (ha : Na D0 a v) {f : Int} (hf0 : 0 ≤ f ∧ f ≤ 2147483647) (hvw : v * f < BB ^ 32) : ∀ (n : Nat) (x c : Int) (D : DD), x + n = D0 a 1 → 0 ≤ x → (0 ≤ c ∧ c ≤ f) → D a = D0 a → Fa D0 D a → (∀ j, x ≤ j → D (a + 1) j = D0 (a + 1) j) → Dg (D (a + 1)) BB x →
    Ds (D (a + 1)) BB x + c * BB ^ x.toNat = f * Ds (D0 (a + 1)) BB x →
    Sg g M_Na_times (rV (fun D' => Na D' a (v * f) ∧ Fa D0 D' a)) 5 [vR a, vI f, vL c, vU, vI x] [] D := by
  have a1 := ha.1
  intro n
  induction n with
  | zero =>
    intro x c D hn hx hc hs hf hj hd hv
    have hxm : x = D0 a 1 := by omega
    have hsa : D a 1 = D0 a 1 := by rw [hs]
    have hvx : Ds (D0 (a + 1)) BB x = v := by rw [hxm]; exact ha.2.2.2
    rw [hvx, Int.mul_comm f] at hv
    have hnn := Ds_nn BB_pos hd
    have hpx := pw_pos BB_pos x.toNat
    refine s_Na_times_5 ka ⟨fun _ => ?_, fun q => by omega⟩
    have hx32 : 0 < c → x < 32 := fun q => lt32 (by
      have : 1 * BB ^ x.toNat ≤ c * BB ^ x.toNat := Int.mul_le_mul_of_nonneg_right (by omega) (by omega)
      omega)
    have hcb : c < BB := by simp only [BB]; omega
    refine (push_ok ka (D := D) (by omega) ?_).mono (fun D' h => s_Na_times_57 ka ?_)
    · rcases Int.lt_or_le 0 c with q | q
      · exact Or.inr ⟨by have := hx32 q; omega, hcb⟩
      · exact Or.inl q
    · have hl : NaL D' a (v * f) ∧ Fa D D' a := by
        rcases h with ⟨q, rfl⟩ | ⟨q, q1, q2, q3⟩
        · have hc0 : c = 0 := by omega
          subst hc0
          exact ⟨⟨by omega, by rw [hsa, ← hxm]; exact hd, by rw [hsa, ← hxm]; omega⟩, Fa.rf⟩
        · refine ⟨⟨?_, ?_, ?_⟩, q3⟩
          · have := hx32 q; omega
          · rw [q1, q2, hsa, ← hxm]; exact Dg_up hd ⟨by omega, hcb⟩
          · rw [q1, q2, hsa, ← hxm, Ds_up hx]; omega
      exact (trim_ok ka hl.1).mono (fun D2 h2 => s_Na_times_61 (retV ⟨h2.1, (hf.tr hl.2).tr (fun c q1 q2 => h2.2.2 c q1)⟩))
  | succ n ih =>
    intro x c D hn hx hc hs hf hj hd hv
    have hsa : D a 1 = D0 a 1 := by rw [hs]
    have hja : D (a + 1) x = D0 (a + 1) x := hj x (Int.le_refl x)
    have hda := ha.2.1 x hx (by omega)
    rw [← hja] at hda
    have e : (2 : Int) ^ 31 = BB := by decide
    simp only [BB] at hda
    have m1 : 0 ≤ D (a + 1) x * f := Int.mul_nonneg hda.1 hf0.1
    have m2 : D (a + 1) x * f ≤ 2147483647 * f := Int.mul_le_mul_of_nonneg_right (by omega) hf0.1
    have hr : 0 ≤ (c + D (a + 1) x * f) % 2 ^ 31 ∧ (c + D (a + 1) x * f) % 2 ^ 31 < BB := by rw [e]; simp only [BB]; omega
    refine s_Na_times_5 ka ⟨fun q => by omega, fun q => ⟨⟨by omega, by omega, by omega, by simp only [BB] at hr; omega, by omega⟩, fun D8 e8 => ⟨by omega, ?_⟩⟩⟩
    have r2 : D8 (a + 1) = fun j => if j = x then (c + D (a + 1) x * f) % 2 ^ 31 else D (a + 1) j := by rw [e8, zw_row]
    have r0 : D8 a = D a := by rw [e8, zw_off (a_ne a)]
    refine ih (x + 1) ((c + D (a + 1) x * f) / 2 ^ 31) D8 (by omega) (by omega) ?_ (by rw [r0, hs]) (hf.tr (by rw [e8]; exact Fa.w1)) (fun j q => ?_) ?_ ?_
    · rw [e]
      simp only [BB]
      omega
    · rw [r2]
      show (if j = x then _ else _) = _
      rw [if_neg (by omega)]
      exact hj j (by omega)
    · rw [r2]; exact Dg_up hd hr
    · rw [r2, Ds_up hx, pw_s BB hx, Ds_s hx]
      have hm2 := Int.mul_ediv_add_emod (c + D (a + 1) x * f) (2 ^ 31)
      have hq := carry_eq (B := BB) hv (by rw [← e]; exact hm2)
      rw [hq, hja]
      grind
theorem times_ok (ka : zk a = (0, 3, 0)) (ha : Na D a v) {f : Int} (hf0 : 0 ≤ f) (hvw : v * f < BB ^ 32) : CV g M_Na_times [vR a, vI f] D (fun D' => Na D' a (v * f) ∧ Fa D D' a) := by
  have a1 := ha.1
  refine CV.intro mc_Na_times (Nat.le_of_ble_eq_true rfl) rfl (sg_ok fun h1 _ _ => ?_)
  have hr : R32 f := h1 (vI f) (List.mem_cons_of_mem _ List.mem_cons_self)
  refine s_Na_times_0 ka (times_loop ka ha ⟨hf0, hr.2⟩ hvw (D a 1).toNat 0 0 D (by omega) (by decide) ⟨by decide, hf0⟩ rfl Fa.rf (fun _ _ => rfl) (fun i _ _ => by omega) ?_)
  simp [Ds_0]
theorem shiftUp_loop (ka : zk a = (0, 3, 0)) (ha : Na D0 a v) {s f : Int} (hs0 : 0 ≤ s ∧ s ≤ 30) (hfs : f = 2 ^ s.toNat) (hvw : v * f < BB ^ 32) : ∀ (n : Nat) (x c : Int) (D : DD), x + n = D0 a 1 → 0 ≤ x → (0 ≤ c ∧ c < f) → D a = D0 a → Fa D0 D a → (∀ j, x ≤ j → D (a + 1) j = D0 (a + 1) j) → Dg (D (a + 1)) BB x →
    Ds (D (a + 1)) BB x + c * BB ^ x.toNat = f * Ds (D0 (a + 1)) BB x →
    Sg g M_Na_shiftUp (rV (fun D' => Na D' a (v * f) ∧ Fa D0 D' a)) 5 [vR a, vI s, vL c, vU, vI x] [] D := by
  have a1 := ha.1
  have hf0 : 0 < f ∧ f ≤ 1073741824 := by
    rw [hfs]
    refine ⟨pw_pos (by decide) _, ?_⟩
    exact ipow_le (n := s.toNat) (m := 30) (by omega)
  intro n
  induction n with
  | zero =>
    intro x c D hn hx hc hs hf hj hd hv
    have hxm : x = D0 a 1 := by omega
    have hsa : D a 1 = D0 a 1 := by rw [hs]
    have hvx : Ds (D0 (a + 1)) BB x = v := by rw [hxm]; exact ha.2.2.2
    rw [hvx, Int.mul_comm f] at hv
    have hnn := Ds_nn BB_pos hd
    have hpx := pw_pos BB_pos x.toNat
    refine s_Na_shiftUp_5 ka ⟨fun _ => ?_, fun q => by omega⟩
    have hge : 0 < c → BB ^ x.toNat ≤ v * f := fun q => by
      have : 1 * BB ^ x.toNat ≤ c * BB ^ x.toNat := Int.mul_le_mul_of_nonneg_right (by omega) (by omega)
      omega
    have hx32 : 0 < c → x < 32 := fun q => lt32 (by have := hge q; omega)
    have hcb : c < BB := by simp only [BB]; omega
    refine (push_ok ka (D := D) (by omega) ?_).mono (fun D' h => s_Na_shiftUp_56 (retV ?_))
    · rcases Int.lt_or_le 0 c with q | q
      · exact Or.inr ⟨by have := hx32 q; omega, hcb⟩
      · exact Or.inl q
    · rcases h with ⟨q, rfl⟩ | ⟨q, q1, q2, q3⟩
      · have hc0 : c = 0 := by omega
        subst hc0
        refine ⟨⟨by omega, by rw [hsa, ← hxm]; exact hd, ?_, by rw [hsa, ← hxm]; omega⟩, hf⟩
        rcases ha.2.2.1 with z | z
        · exact Or.inl (by omega)
        · refine Or.inr ?_
          rw [hsa]
          have := ha.nn
          have : v * 1 ≤ v * f := Int.mul_le_mul_of_nonneg_left (by omega) (by omega)
          omega
      · refine ⟨⟨?_, ?_, Or.inr ?_, ?_⟩, hf.tr q3⟩
        · have := hx32 q; omega
        · rw [q1, q2, hsa, ← hxm]; exact Dg_up hd ⟨by omega, hcb⟩
        · rw [q1, hsa, ← hxm, show x + 1 - 1 = x by omega]; exact hge q
        · rw [q1, q2, hsa, ← hxm, Ds_up hx]; omega
  | succ n ih =>
    intro x c D hn hx hc hs hf hj hd hv
    have hsa : D a 1 = D0 a 1 := by rw [hs]
    have hja : D (a + 1) x = D0 (a + 1) x := hj x (Int.le_refl x)
    have hda := ha.2.1 x hx (by omega)
    rw [← hja] at hda
    have e : (2 : Int) ^ 31 = BB := by decide
    simp only [BB] at hda
    have m1 : 0 ≤ D (a + 1) x * f := Int.mul_nonneg hda.1 (by omega)
    have m2 : D (a + 1) x * f ≤ 2147483647 * f := Int.mul_le_mul_of_nonneg_right (by omega) (by omega)
    have hr : 0 ≤ (c + D (a + 1) x * f) % 2 ^ 31 ∧ (c + D (a + 1) x * f) % 2 ^ 31 < BB := by rw [e]; simp only [BB]; omega
    refine s_Na_shiftUp_5 ka ⟨fun q => by omega, fun q => ?_⟩
    rw [← hfs]
    refine ⟨⟨by omega, ⟨by omega, by omega⟩, ⟨⟨hc.1, m1, s.toNat, Or.inr ⟨by rw [hfs]; exact Int.mul_emod_left _ _, by rw [← hfs]; exact hc.2⟩⟩, by omega⟩, by simp only [BB] at hr; omega, by omega⟩, fun D8 e8 => ⟨by omega, ?_⟩⟩
    have r2 : D8 (a + 1) = fun j => if j = x then (c + D (a + 1) x * f) % 2 ^ 31 else D (a + 1) j := by rw [e8, zw_row]
    have r0 : D8 a = D a := by rw [e8, zw_off (a_ne a)]
    refine ih (x + 1) ((c + D (a + 1) x * f) / 2 ^ 31) D8 (by omega) (by omega) ?_ (by rw [r0, hs]) (hf.tr (by rw [e8]; exact Fa.w1)) (fun j q => ?_) ?_ ?_
    · rw [e]
      simp only [BB]
      omega
    · rw [r2]
      show (if j = x then _ else _) = _
      rw [if_neg (by omega)]
      exact hj j (by omega)
    · rw [r2]; exact Dg_up hd hr
    · rw [r2, Ds_up hx, pw_s BB hx, Ds_s hx]
      have hm2 := Int.mul_ediv_add_emod (c + D (a + 1) x * f) (2 ^ 31)
      have hq := carry_eq (B := BB) hv (by rw [← e]; exact hm2)
      rw [hq, hja]
      grind
theorem shiftUp_ok (ka : zk a = (0, 3, 0)) (ha : Na D a v) {s : Int} (hs0 : 0 ≤ s ∧ s ≤ 30) (hvw : v * 2 ^ s.toNat < BB ^ 32) : CV g M_Na_shiftUp [vR a, vI s] D (fun D' => Na D' a (v * 2 ^ s.toNat) ∧ Fa D D' a) := by
  have a1 := ha.1
  refine CV.intro mc_Na_shiftUp (Nat.le_of_ble_eq_true rfl) rfl (s_Na_shiftUp_0 ka (shiftUp_loop ka ha hs0 rfl hvw (D a 1).toNat 0 0 D (by omega) (by decide) ⟨by decide, pw_pos (by decide) _⟩ rfl Fa.rf (fun _ _ => rfl) (fun i _ _ => by omega) ?_))
  simp [Ds_0]
end NA2
