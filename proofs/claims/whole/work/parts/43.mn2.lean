/-! the model's numbers: add, subtract, multiplyBy, divideBy -/
section MN2
variable {g : GG} {D D0 : DD} {n m a b t k v w : Int}
theorem madd_loop (ha : 0 ≤ a ∧ a < 260) (hb : 0 ≤ b ∧ b < 260) (ht : 0 ≤ t ∧ t < 260) (hbt : b ≠ t) (h : Mn D0 a v) (h' : Mn D0 b w) (hvw : v + w < MB ^ 100) {mx : Int} (hm : mx = max (D0 710 a) (D0 710 b)) : ∀ (s : Nat) (x c : Int) (D : DD) (z7 : VV), x + s = mx → 0 ≤ x → (0 ≤ c ∧ c ≤ 1) → F1 t D0 D → D 710 = D0 710 → (∀ j, x ≤ j → j < 100 → mr D a j = mr D0 a j) → Dg (mr D t) MB x →
    Ds (mr D t) MB x + c * MB ^ x.toNat = Ds (pd (mr D0 a) (D0 710 a)) MB x + Ds (pd (mr D0 b) (D0 710 b)) MB x →
    Sg g M_Mo_add (rV (fun D' => Mn D' t (v + w) ∧ F1 t D0 D')) 38 [vR 708, vI a, vI b, vI t, vI mx, vI c, vI x, z7] [] D := by
  have a1 := h.1
  have b1 := h'.1
  intro s
  induction s with
  | zero =>
    intro x c D z7 hn hx hc hf hs hj hd hv
    have hxm : x = mx := by omega
    subst hxm
    have e1 : Ds (pd (mr D0 a) (D0 710 a)) MB x = v := by rw [Ds_pd a1.1 (by omega)]; exact h.2.2.2
    have e2 : Ds (pd (mr D0 b) (D0 710 b)) MB x = w := by rw [Ds_pd b1.1 (by omega)]; exact h'.2.2.2
    rw [e1, e2] at hv
    have hlow : x = 0 ∨ MB ^ (x - 1).toNat ≤ v + w := by
      have nv := h.nn
      have nw := h'.nn
      rcases (show x = D0 710 a ∨ x = D0 710 b by omega) with q | q
      · rcases h.2.2.1 with z | z
        · omega
        · rw [q]; exact Or.inr (by omega)
      · rcases h'.2.2.1 with z | z
        · omega
        · rw [q]; exact Or.inr (by omega)
    have hpx := pw_pos MB_pos x.toNat
    have hnn := Ds_nn MB_pos hd
    refine s_Mo_add_38 ⟨fun _ => ⟨ht, fun D2 e2 => ?_⟩, fun q => by omega⟩
    have r1 : D2 710 t = x := by rw [e2, zw_eq]
    have r2 : mr D2 t = mr D t := by rw [e2, mr_s]
    have f2 : F1 t D0 D2 := hf.tr (by rw [e2]; exact F1.w0)
    refine ⟨fun c0 => retV ?_, fun c0 => ?_⟩
    · have hc0 : c = 0 := by omega
      subst hc0
      exact ⟨⟨by omega, by rw [r1, r2]; exact hd, by rw [r1]; exact hlow, by rw [r1, r2]; omega⟩, f2⟩
    · have hc1 : c = 1 := by omega
      subst hc1
      have hx100 : x < 100 := lt100 (by omega)
      refine ⟨⟨by unfold R32; omega, by unfold R32; omega, by omega⟩, fun D3 e3 => ?_⟩
      have r3 : D3 710 t = x := by rw [e3, zw_off (by decide), r1]
      refine ⟨⟨ht, by unfold R32; omega, ht⟩, fun D4 e4 => retV ?_⟩
      have r4 : D4 710 t = x + 1 := by rw [e4, zw_eq, r3]
      have r5 : mr D4 t = fun j => if j = x then 1 else mr D t j := by rw [e4, mr_s, e3, mr_w, r2]
      refine ⟨⟨by omega, ?_, Or.inr ?_, ?_⟩, f2.tr ((show F1 t D2 D3 by rw [e3]; exact F1.w9 (by omega)).tr (by rw [e4]; exact F1.w0))⟩
      · rw [r4, r5]; exact Dg_up hd (by decide)
      · rw [r4, show x + 1 - 1 = x by omega]; omega
      · rw [r4, r5, Ds_up hx]; omega
  | succ s ih =>
    intro x c D z7 hn hx hc hf hs hj hd hv
    have hx100 : x < 100 := by omega
    refine s_Mo_add_38 ⟨fun q => by omega, fun _ => (mpart_ok ha ⟨hx, hx100⟩).mono fun y1 D1 r1 => ?_⟩
    obtain ⟨rfl, hy1⟩ := r1
    refine s_Mo_add_52 ((mpart_ok hb ⟨hx, hx100⟩).mono fun y0 D1 r1 => ?_)
    obtain ⟨rfl, hy0⟩ := r1
    have h0 : y1 = pd (mr D0 a) (D0 710 a) x := by rw [hy1, hs]; unfold pd; rw [hj x (Int.le_refl x) hx100]
    have h1 : y0 = pd (mr D0 b) (D0 710 b) x := by rw [hy0, hs]; unfold pd; rw [(hf.2 b (by omega) (by omega)).2 x hx hx100]
    have p0 := pd_in MB_pos h.2.1 hx
    have p1 := pd_in MB_pos h'.2.1 hx
    rw [← h0] at p0
    rw [← h1] at p1
    simp only [MB] at p0 p1
    refine s_Mo_add_59 ⟨⟨by unfold R32; omega, by unfold R32; omega, by omega, by unfold R32; omega, by unfold R32; omega, by omega, by omega⟩, fun D5 e5 => ⟨by unfold R32; omega, ?_⟩⟩
    have r2 : mr D5 t = fun j => if j = x then (y1 + y0 + c) % 16777216 else mr D1 t j := by rw [e5, mr_w]
    refine ih (x + 1) ((y1 + y0 + c) / 16777216) D5 _ (by omega) (by omega) (by omega) (hf.tr (by rw [e5]; exact F1.w9 (by omega))) (by rw [e5, zw_off (by decide), hs]) (fun j q q2 => ?_) ?_ ?_
    · rcases Decidable.em (a = t) with z | z
      · rw [z, r2]
        show (if j = x then _ else mr D1 t j) = _
        rw [if_neg (by omega), ← z]
        exact hj j (by omega) q2
      · rw [e5, mr_wo z (by omega) (by omega)]
        exact hj j (by omega) q2
    · rw [r2]; exact Dg_up hd (by simp only [MB]; omega)
    · rw [r2, Ds_up hx, pw_s MB hx, Ds_s hx, Ds_s hx, ← h0, ← h1]
      have hm2 : MB * ((y1 + y0 + c) / 16777216) + (y1 + y0 + c) % 16777216 = c + (y1 + y0) := by simp only [MB]; omega
      have hq := carry_eq (B := MB) hv hm2
      rw [hq, Int.add_mul]
      omega
theorem madd_ok (ha : 0 ≤ a ∧ a < 260) (hb : 0 ≤ b ∧ b < 260) (ht : 0 ≤ t ∧ t < 260) (hbt : b ≠ t) (h : Mn D a v) (h' : Mn D b w) (hvw : v + w < MB ^ 100) : CV g M_Mo_add [vR 708, vI a, vI b, vI t] D (fun D' => Mn D' t (v + w) ∧ F1 t D D') := by
  have a1 := h.1
  have b1 := h'.1
  have key : ∀ mx, mx = max (D 710 a) (D 710 b) → Sg g M_Mo_add (rV (fun D' => Mn D' t (v + w) ∧ F1 t D D')) 30 [vR 708, vI a, vI b, vI t, vU, vU, vU, vU] [vI mx] D := fun mx hm =>
    s_Mo_add_30 (madd_loop ha hb ht hbt h h' hvw hm mx.toNat 0 0 D _ (by omega) (by decide) (by decide) FM.rf rfl (fun _ _ _ => rfl) (fun i _ _ => by omega) (by simp [Ds_0]))
  exact CV.intro mc_Mo_add (Nat.le_of_ble_eq_true rfl) rfl (s_Mo_add_0 ⟨⟨ha, hb⟩, fun q => ⟨hb, key _ (by omega)⟩, fun q => ⟨ha, key _ (by omega)⟩⟩)
theorem msub_loop (ha : 0 ≤ a ∧ a < 260) (hb : 0 ≤ b ∧ b < 260) (ht : 0 ≤ t ∧ t < 260) (hbt : b ≠ t) (h : Mn D0 a v) (h' : Mn D0 b w) (hvw : w ≤ v) : ∀ (s : Nat) (x c : Int) (D : DD) (z7 : VV), x + s = D0 710 a → 0 ≤ x → (0 ≤ c ∧ c ≤ 1) → F1 t D0 D → D 710 = D0 710 → (∀ j, x ≤ j → j < 100 → mr D a j = mr D0 a j) → Dg (mr D t) MB x →
    Ds (mr D t) MB x - c * MB ^ x.toNat = Ds (mr D0 a) MB x - Ds (pd (mr D0 b) (D0 710 b)) MB x →
    Sg g M_Mo_subtract (rV (fun D' => Mn D' t (v - w) ∧ F1 t D0 D')) 14 [vR 708, vI a, vI b, vI t, vI (D0 710 a), vI c, vI x, z7] [] D := by
  have a1 := h.1
  have b1 := h'.1
  intro s
  induction s with
  | zero =>
    intro x c D z7 hn hx hc hf hs hj hd hv
    have hxm : x = D0 710 a := by omega
    have hba : D0 710 b ≤ D0 710 a := h'.size_le a1.1 (Int.lt_of_le_of_lt hvw h.lt)
    have e2 : Ds (pd (mr D0 b) (D0 710 b)) MB x = w := by rw [Ds_pd b1.1 (by omega)]; exact h'.2.2.2
    rw [e2, show Ds (mr D0 a) MB x = v by rw [hxm]; exact h.2.2.2] at hv
    have hlt := Ds_lt MB_pos hd
    have hpx := pw_pos MB_pos x.toNat
    have hc0 : c = 0 := by
      rcases (show c = 0 ∨ c = 1 by omega) with q | q
      · exact q
      · subst q; omega
    subst hc0
    refine s_Mo_subtract_14 ⟨fun _ => ⟨ht, fun D1 e1 => ?_⟩, fun q => by omega⟩
    have r1 : D1 710 t = D0 710 a := by rw [e1, zw_eq]
    have r2 : mr D1 t = mr D t := by rw [e1, mr_s]
    refine (mtrim_ok ht (v := v - w) ⟨by omega, by rw [r1, r2, ← hxm]; exact hd, by rw [r1, r2, ← hxm]; omega⟩).mono fun D2 r => s_Mo_subtract_99 (retV ⟨r.1, ?_⟩)
    exact (hf.tr (by rw [e1]; exact F1.w0)).tr r.2
  | succ s ih =>
    intro x c D z7 hn hx hc hf hs hj hd hv
    have hx100 : x < 100 := by omega
    refine s_Mo_subtract_14 ⟨fun q => by omega, fun _ => (mpart_ok ha ⟨hx, hx100⟩).mono fun y1 D1 r1 => ?_⟩
    obtain ⟨rfl, hy1⟩ := r1
    refine s_Mo_subtract_28 ((mpart_ok hb ⟨hx, hx100⟩).mono fun y0 D1 r1 => ?_)
    obtain ⟨rfl, hy0⟩ := r1
    have h0 : y1 = mr D0 a x := by rw [hy1, hs]; unfold pd; rw [if_pos (by omega)]; exact hj x (Int.le_refl x) hx100
    have h1 : y0 = pd (mr D0 b) (D0 710 b) x := by rw [hy0, hs]; unfold pd; rw [(hf.2 b (by omega) (by omega)).2 x hx hx100]
    have p0 := h.2.1 x hx (by omega)
    have p1 := pd_in MB_pos h'.2.1 hx
    rw [← h0] at p0
    rw [← h1] at p1
    simp only [MB] at p0 p1
    have fin : ∀ c' y z7, (0 ≤ c' ∧ c' ≤ 1) → (0 ≤ y ∧ y < MB) → y1 - y0 - c = y - c' * MB → Sg g M_Mo_subtract (rV (fun D' => Mn D' t (v - w) ∧ F1 t D0 D')) 79 [vR 708, vI a, vI b, vI t, vI (D0 710 a), vI c', vI x, z7] [vI y, vI (100 * t + x), vR 709] D1 := by
      intro c' y z7 hc' hy he
      refine s_Mo_subtract_79 ⟨by omega, fun D5 e5 => ⟨by unfold R32; omega, ?_⟩⟩
      have r2 : mr D5 t = fun j => if j = x then y else mr D1 t j := by rw [e5, mr_w]
      refine ih (x + 1) c' D5 _ (by omega) (by omega) hc' (hf.tr (by rw [e5]; exact F1.w9 (by omega))) (by rw [e5, zw_off (by decide), hs]) (fun j q q2 => ?_) ?_ ?_
      · rcases Decidable.em (a = t) with z | z
        · rw [z, r2]
          show (if j = x then _ else mr D1 t j) = _
          rw [if_neg (by omega), ← z]
          exact hj j (by omega) q2
        · rw [e5, mr_wo z (by omega) (by omega)]
          exact hj j (by omega) q2
      · rw [r2]; exact Dg_up hd hy
      · rw [r2, Ds_up hx, pw_s MB hx, Ds_s hx, Ds_s hx, ← h0, ← h1]
        generalize MB ^ x.toNat = p at hv ⊢
        generalize Ds (mr D1 t) MB x = S at hv ⊢
        generalize Ds (mr D0 a) MB x = T at hv ⊢
        generalize Ds (pd (mr D0 b) (D0 710 b)) MB x = U at hv ⊢
        have h5 : (y1 - y0 - c) * p = (y - c' * MB) * p := by rw [he]
        grind
    refine s_Mo_subtract_35 ⟨⟨by unfold R32; omega, by unfold R32; omega⟩, fun q => s_Mo_subtract_51 ⟨⟨by unfold R32; omega, by unfold R32; omega⟩, fun _ => ?_, fun q2 => by omega⟩, fun q => s_Mo_subtract_51 ⟨⟨by unfold R32; omega, by unfold R32; omega⟩, fun q2 => by omega, fun _ => ⟨by unfold R32; omega, ?_⟩⟩⟩
    · exact fin 0 _ _ (by decide) (by simp only [MB]; omega) (by omega)
    · exact fin 1 _ _ (by decide) (by simp only [MB]; omega) (by simp only [MB]; omega)
theorem msub_ok (ha : 0 ≤ a ∧ a < 260) (hb : 0 ≤ b ∧ b < 260) (ht : 0 ≤ t ∧ t < 260) (hbt : b ≠ t) (h : Mn D a v) (h' : Mn D b w) (hvw : w ≤ v) : CV g M_Mo_subtract [vR 708, vI a, vI b, vI t] D (fun D' => Mn D' t (v - w) ∧ F1 t D D') := by
  have a1 := h.1
  exact CV.intro mc_Mo_subtract (Nat.le_of_ble_eq_true rfl) rfl (s_Mo_subtract_0 ⟨ha, msub_loop ha hb ht hbt h h' hvw (D 710 a).toNat 0 0 D _ (by omega) (by decide) (by decide) FM.rf rfl (fun _ _ _ => rfl) (fun i _ _ => by omega) (by simp [Ds_0])⟩)
theorem mtimes_tail (hn : 0 ≤ n ∧ n < 260) {X : Int} (hX : X < MB ^ 100) : ∀ (k : Nat) (c : Int) (D : DD) (z2 z5 z6 z7 : VV), 0 ≤ c → c < MB ^ k → F1 n D0 D → (0 ≤ D 710 n ∧ D 710 n ≤ 100) → Dg (mr D n) MB (D 710 n) → Ds (mr D n) MB (D 710 n) + c * MB ^ (D 710 n).toNat = X →
    Sg g M_Mo_multiplyBy (rV (fun D' => Mn D' n X ∧ F1 n D0 D')) 68 [vR 708, vI n, z2, vL c, vU, z5, z6, z7] [] D := by
  intro k
  induction k with
  | zero =>
    intro c D z2 z5 z6 z7 hc hk hf hs hd hv
    have hc0 : c = 0 := by have : MB ^ 0 = 1 := rfl; omega
    subst hc0
    refine s_Mo_multiplyBy_68 ⟨fun _ => ?_, fun q => by omega⟩
    exact (mtrim_ok hn (v := X) ⟨hs, hd, by omega⟩).mono fun D2 r => s_Mo_multiplyBy_120 (retV ⟨r.1, hf.tr r.2⟩)
  | succ k ih =>
    intro c D z2 z5 z6 z7 hc hk hf hs hd hv
    refine s_Mo_multiplyBy_68 ⟨fun q => ?_, fun q => ?_⟩
    · have hc0 : c = 0 := by omega
      subst hc0
      exact (mtrim_ok hn (v := X) ⟨hs, hd, by omega⟩).mono fun D2 r => s_Mo_multiplyBy_120 (retV ⟨r.1, hf.tr r.2⟩)
    · have hnn := Ds_nn MB_pos hd
      have hs100 : D 710 n < 100 := lt100 (by
        have := pw_pos MB_pos (D 710 n).toNat
        have : 1 * MB ^ (D 710 n).toNat ≤ c * MB ^ (D 710 n).toNat := Int.mul_le_mul_of_nonneg_right (by omega) (by omega)
        omega)
      refine ⟨⟨by unfold R32; omega, hn, by unfold R32; omega, hc, by unfold R32; omega, by omega⟩, fun D5 e5 => ?_⟩
      have r5 : D5 710 n = D 710 n := by rw [e5, zw_off (by decide)]
      refine ⟨⟨hc, hn, by unfold R32; omega, hn⟩, fun D8 e8 => ?_⟩
      have r1 : D8 710 n = D 710 n + 1 := by rw [e8, zw_eq, r5]
      have r2 : mr D8 n = fun j => if j = D 710 n then c % 16777216 else mr D n j := by rw [e8, mr_s, e5, mr_w]
      have hb : MB ^ (k + 1) = MB ^ k * MB := Int.pow_succ _ _
      refine ih (c / 16777216) D8 _ _ _ _ (by omega) ?_ (hf.tr ((show F1 n D D5 by rw [e5]; exact F1.w9 (by omega)).tr (by rw [e8]; exact F1.w0))) (by omega) ?_ ?_
      · rw [hb] at hk
        exact Int.ediv_lt_of_lt_mul (by decide) hk
      · rw [r1, r2]; exact Dg_up hd (by simp only [MB]; omega)
      · rw [r1, r2, Ds_up hs.1, pw_s MB hs.1, ← hv]
        have hm : MB * (c / 16777216) + c % 16777216 = c := Int.mul_ediv_add_emod c 16777216
        generalize c / 16777216 = q at hm ⊢
        generalize c % 16777216 = r at hm ⊢
        rw [← hm]
        grind
theorem mtimes_loop (hn : 0 ≤ n ∧ n < 260) (h : Mn D0 n v) {f : Int} (hf0 : 0 ≤ f ∧ f ≤ 2147483647) (hvw : v * f < MB ^ 100) : ∀ (s : Nat) (x c : Int) (D : DD) (z6 z7 : VV), x + s = D0 710 n → 0 ≤ x → (0 ≤ c ∧ c ≤ f) → F1 n D0 D → D 710 n = D0 710 n → (∀ j, x ≤ j → j < 100 → mr D n j = mr D0 n j) → Dg (mr D n) MB x →
    Ds (mr D n) MB x + c * MB ^ x.toNat = f * Ds (mr D0 n) MB x →
    Sg g M_Mo_multiplyBy (rV (fun D' => Mn D' n (v * f) ∧ F1 n D0 D')) 5 [vR 708, vI n, vI f, vL c, vU, vI x, z6, z7] [] D := by
  have a1 := h.1
  intro s
  induction s with
  | zero =>
    intro x c D z6 z7 hs hx hc hf hz hj hd hv
    have hxm : x = D0 710 n := by omega
    rw [show Ds (mr D0 n) MB x = v by rw [hxm]; exact h.2.2.2, Int.mul_comm f] at hv
    refine s_Mo_multiplyBy_5 ⟨hn, fun _ => ?_, fun q => by omega⟩
    have e2 : MB ^ 2 = 281474976710656 := by decide
    exact mtimes_tail hn hvw 2 c D _ _ _ _ hc.1 (by omega) hf (by omega) (by rw [hz, ← hxm]; exact hd) (by rw [hz, ← hxm]; exact hv)
  | succ s ih =>
    intro x c D z6 z7 hs hx hc hf hz hj hd hv
    have hja : mr D n x = mr D0 n x := hj x (Int.le_refl x) (by omega)
    have hda := h.2.1 x hx (by omega)
    rw [← hja] at hda
    have em : D 709 (100 * n + x) = mr D n x := rfl
    simp only [MB] at hda
    refine s_Mo_multiplyBy_5 ⟨hn, fun q => by omega, fun _ => ?_⟩
    rw [em]
    have m1 : 0 ≤ mr D n x * f := Int.mul_nonneg hda.1 hf0.1
    have m2 : mr D n x * f ≤ 16777215 * f := Int.mul_le_mul_of_nonneg_right (by omega) hf0.1
    refine ⟨⟨by unfold R32; omega, by unfold R32; omega, by omega, by unfold R64; omega, by unfold R64; omega, by unfold R32; omega, by unfold R32; omega, by omega, by unfold R32; omega, by omega⟩, fun D8 e8 => ⟨⟨by omega, by unfold R32; omega⟩, ?_⟩⟩
    have r2 : mr D8 n = fun j => if j = x then (mr D n x * f + c) % 16777216 else mr D n j := by rw [e8, mr_w]
    refine ih (x + 1) ((mr D n x * f + c) / 16777216) D8 _ _ (by omega) (by omega) (by omega) (hf.tr (by rw [e8]; exact F1.w9 (by omega))) (by rw [e8, zw_off (by decide), hz]) (fun j q q2 => ?_) ?_ ?_
    · rw [r2]
      show (if j = x then _ else _) = _
      rw [if_neg (by omega)]
      exact hj j (by omega) q2
    · rw [r2]; exact Dg_up hd (by simp only [MB]; omega)
    · rw [r2, Ds_up hx, pw_s MB hx, Ds_s hx, ← hja]
      have hm2 : MB * ((mr D n x * f + c) / 16777216) + (mr D n x * f + c) % 16777216 = c + mr D n x * f := by simp only [MB]; omega
      have hq := carry_eq (B := MB) hv hm2
      rw [hq, Int.mul_add]
      grind
theorem mtimes_ok (hn : 0 ≤ n ∧ n < 260) (h : Mn D n v) {f : Int} (hf0 : 0 ≤ f) (hvw : v * f < MB ^ 100) : CV g M_Mo_multiplyBy [vR 708, vI n, vI f] D (fun D' => Mn D' n (v * f) ∧ F1 n D D') := by
  have a1 := h.1
  refine CV.intro mc_Mo_multiplyBy (Nat.le_of_ble_eq_true rfl) rfl (sg_ok fun h1 _ _ => ?_)
  have hr : R32 f := h1 (vI f) (List.mem_cons_of_mem _ (List.mem_cons_of_mem _ List.mem_cons_self))
  exact s_Mo_multiplyBy_0 (mtimes_loop hn h ⟨hf0, hr.2⟩ hvw (D 710 n).toNat 0 0 D _ _ (by omega) (by omega) (by omega) FM.rf rfl (fun _ _ _ => rfl) (fun i _ _ => by omega) (by simp [Ds_0]))
theorem mdiv_loop (hn : 0 ≤ n ∧ n < 260) (h : Mn D0 n v) {f : Int} (hf0 : 1 ≤ f ∧ f ≤ 2147483647) : ∀ (s : Nat) (x r : Int) (D : DD) (z6 z7 : VV), x + 1 = s → x < D0 710 n → (0 ≤ r ∧ r < f) → F1 n D0 D → D 710 n = D0 710 n → Dg (mr D n) MB (D0 710 n) →
    f * (Ds (mr D n) MB (D0 710 n) - Ds (mr D n) MB (x + 1)) + r * MB ^ (x + 1).toNat + Ds (mr D n) MB (x + 1) = v →
    Sg g M_Mo_divideBy (rI (fun y D' => Mn D' n (v / f) ∧ F1 n D0 D' ∧ y = v % f)) 12 [vR 708, vI n, vI f, vL r, vU, vI x, z6, z7] [] D := by
  have a1 := h.1
  intro s
  induction s with
  | zero =>
    intro x r D z6 z7 hs hx hr hf hz hd hv
    have hx1 : x + 1 = 0 := by omega
    rw [hx1, Ds_0, Int.sub_zero] at hv
    have hv2 : f * Ds (mr D n) MB (D0 710 n) + r = v := by
      have : MB ^ (0 : Int).toNat = 1 := rfl
      rw [this] at hv
      omega
    have hq : v / f = Ds (mr D n) MB (D0 710 n) := by
      rw [← hv2, Int.mul_comm, Int.add_comm]
      rw [Int.add_mul_ediv_right _ _ (by omega), Int.ediv_eq_zero_of_lt hr.1 hr.2]
      omega
    have hm : v % f = r := by
      rw [← hv2, Int.mul_comm, Int.add_comm, Int.add_mul_emod_self_right, Int.emod_eq_of_lt hr.1 hr.2]
    refine s_Mo_divideBy_12 ⟨fun _ => ?_, fun q => by omega⟩
    exact (mtrim_ok hn (v := v / f) ⟨by omega, by rw [hz]; exact hd, by rw [hz, hq]⟩).mono (fun D' q => s_Mo_divideBy_73 ⟨by unfold R32; omega, retI ⟨q.1, hf.tr q.2, hm.symm⟩⟩)
  | succ s ih =>
    intro x r D z6 z7 hs hx hr hf hz hd hv
    have hx0 : 0 ≤ x := by omega
    have hda := hd x hx0 hx
    have em : D 709 (100 * n + x) = mr D n x := rfl
    simp only [MB] at hda
    have hn0 : 0 ≤ r * 16777216 + mr D n x := by omega
    have hlt : r * 16777216 + mr D n x < f * MB := by simp only [MB]; omega
    have hq0 : 0 ≤ (r * 16777216 + mr D n x) / f := Int.ediv_nonneg hn0 (by omega)
    have hq1 : (r * 16777216 + mr D n x) / f < MB := Int.ediv_lt_of_lt_mul (by omega) (by rw [Int.mul_comm MB]; exact hlt)
    have hr0 : 0 ≤ (r * 16777216 + mr D n x) % f := Int.emod_nonneg _ (by omega)
    have hr1 : (r * 16777216 + mr D n x) % f < f := Int.emod_lt_of_pos _ (by omega)
    have hq2 := hq1
    simp only [MB] at hq2
    refine s_Mo_divideBy_12 ⟨fun q => by omega, fun _ => ?_⟩
    rw [em]
    refine ⟨⟨by unfold R64; omega, by unfold R32; omega, by unfold R32; omega, by omega, by unfold R64; omega, by unfold R32; omega, by unfold R32; omega, ⟨hn0, by omega⟩, by unfold R32; omega, by omega⟩, fun D9 e9 => ⟨⟨⟨hn0, by omega⟩, by unfold R32; omega⟩, ?_⟩⟩
    have r2 : mr D9 n = fun j => if j = x then (r * 16777216 + mr D n x) / f else mr D n j := by rw [e9, mr_w]
    refine ih (x + -1) _ D9 _ _ (by omega) (by omega) ⟨hr0, hr1⟩ (hf.tr (by rw [e9]; exact F1.w9 (by omega))) (by rw [e9, zw_off (by decide), hz]) ?_ ?_
    · rw [r2]; exact Dg_set hd ⟨hq0, hq1⟩
    · have ex : x + -1 + 1 = x := by omega
      rw [ex, r2, Ds_set ⟨hx0, hx⟩, Ds_upl (Int.le_refl x)]
      rw [Ds_s hx0, pw_s MB hx0] at hv
      have hm := Int.mul_ediv_add_emod (r * 16777216 + mr D n x) f
      have e : (16777216 : Int) = MB := rfl
      rw [e] at hm ⊢
      generalize (r * MB + mr D n x) / f = q at hm ⊢
      generalize (r * MB + mr D n x) % f = r' at hm ⊢
      generalize Ds (mr D n) MB (D0 710 n) = S at hv ⊢
      generalize Ds (mr D n) MB x = T at hv ⊢
      generalize MB ^ x.toNat = p at hv ⊢
      generalize mr D n x = d at hm hv ⊢
      have h5 : (f * q + r') * p = (r * MB + d) * p := by rw [hm]
      grind
theorem mdiv_ok (hn : 0 ≤ n ∧ n < 260) (h : Mn D n v) {f : Int} (hf0 : 1 ≤ f) : CI g M_Mo_divideBy [vR 708, vI n, vI f] D (fun y D' => Mn D' n (v / f) ∧ F1 n D D' ∧ y = v % f) := by
  have a1 := h.1
  refine CI.intro mc_Mo_divideBy (Nat.le_of_ble_eq_true rfl) rfl (sg_ok fun h1 _ _ => ?_)
  have hr : R32 f := h1 (vI f) (List.mem_cons_of_mem _ (List.mem_cons_of_mem _ List.mem_cons_self))
  refine s_Mo_divideBy_0 ⟨⟨hn, by unfold R32; omega⟩, mdiv_loop hn h ⟨hf0, hr.2⟩ (D 710 n).toNat (D 710 n - 1) 0 D _ _ (by omega) (by omega) (by omega) FM.rf rfl h.2.1 ?_⟩
  rw [show D 710 n - 1 + 1 = D 710 n by omega, h.2.2.2]
  simp
end MN2
