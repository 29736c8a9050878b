/-! the model's numbers: multiply -/
section MN3
variable {g : GG} {D D0 D1 : DD} {n m a b t k v w : Int}
theorem mmul_inner (ha : 0 ≤ a ∧ a < 260) (hb : 0 ≤ b ∧ b < 260) (ht : 0 ≤ t ∧ t < 260) (hbt : b ≠ t) {m i F sb : Int} {Q : Option VV → EE → DD → Prop} (hdb : Dg (mr D1 b) MB sb) (hsb : D1 710 b = sb) (hi : 0 ≤ i) (hsb0 : 0 ≤ sb) (hF : 0 ≤ F ∧ F < MB) (hm : m ≤ 100) (him : i + sb < m)
    (hk : ∀ (cy : Int) (D : DD), 0 ≤ cy → cy < MB → F1 t D1 D → D 710 = D1 710 → (∀ j, i + sb ≤ j → j < 100 → mr D t j = mr D1 t j) → Dg (mr D t) MB m → Ds (mr D t) MB (i + sb) + cy * MB ^ (i + sb).toNat = Ds (mr D1 t) MB (i + sb) + F * Ds (mr D1 b) MB sb * MB ^ i.toNat →
      ∀ D9, D9 = zw D 709 (100 * t + i + sb) cy → Sg g M_Mo_multiply Q 55 [vR 708, vI a, vI b, vI t, vU, vI (i + 1), vL cy, vU, vL F, vU, vI sb, vU, vU] [] D9) :
    ∀ (s : Nat) (k cy : Int) (D : DD) (z4 z11 z12 : VV), k + s = sb → 0 ≤ k → 0 ≤ cy → cy < MB → F1 t D1 D → D 710 = D1 710 → (∀ j, i + k ≤ j → j < 100 → mr D t j = mr D1 t j) → Dg (mr D t) MB m → Ds (mr D t) MB (i + k) + cy * MB ^ (i + k).toNat = Ds (mr D1 t) MB (i + k) + F * Ds (mr D1 b) MB k * MB ^ i.toNat →
    Sg g M_Mo_multiply Q 87 [vR 708, vI a, vI b, vI t, z4, vI i, vL cy, vU, vL F, vU, vI k, z11, z12] [] D := by
  intro s
  induction s with
  | zero =>
    intro k cy D z4 z11 z12 hn hk0 h1 h2 hf hs hj hd hv
    have : k = sb := by omega
    subst this
    have hc1 : D 710 b = k := by rw [hs]; exact hsb
    simp only [MB] at h2
    refine s_Mo_multiply_87 ⟨hb, fun _ => ?_, fun q => by omega⟩
    rw [hc1]
    refine ⟨⟨by unfold R32; omega, by unfold R32; omega, hb, by unfold R32; omega, by unfold R32; omega, by omega⟩, fun D9 e9 => ⟨by unfold R32; omega, ?_⟩⟩
    exact hk cy D h1 h2 hf hs hj hd hv D9 e9
  | succ s ih =>
    intro k cy D z4 z11 z12 hn hk0 h1 h2 hf hs hj hd hv
    have hc1 : D 710 b = sb := by rw [hs]; exact hsb
    have hc2 : mr D b k = mr D1 b k := (hf.2 b (by omega) (by omega)).2 k hk0 (by omega)
    have hdk := hdb k hk0 (by omega)
    have hrk := hd (i + k) (by omega) (by omega)
    rw [← hc2] at hdk
    simp only [MB] at hdk hrk hF h2
    have m1 : 0 ≤ F * mr D b k := Int.mul_nonneg hF.1 hdk.1
    have m2 : F * mr D b k ≤ 16777215 * 16777215 := by
      have q1 : F * mr D b k ≤ F * 16777215 := Int.mul_le_mul_of_nonneg_left (by omega) hF.1
      have q2 : F * 16777215 ≤ 16777215 * 16777215 := Int.mul_le_mul_of_nonneg_right (by omega) (by decide)
      omega
    have em : D 709 (100 * b + k) = mr D b k := rfl
    have em2 : D 709 (100 * t + i + k) = mr D t (i + k) := by unfold mr; rw [Int.add_assoc]
    refine s_Mo_multiply_87 ⟨hb, fun q => by omega, fun _ => ?_⟩
    rw [em, em2]
    refine ⟨⟨by unfold R32; omega, by unfold R32; omega, by omega, by unfold R64; omega, by unfold R32; omega, by unfold R32; omega, by unfold R32; omega, by omega, by unfold R64; omega, by unfold R64; omega, by unfold R32; omega, by unfold R32; omega, by unfold R32; omega, by omega, by unfold R32; omega, by omega⟩, fun D13 e13 => ⟨⟨by omega, by unfold R32; omega⟩, ?_⟩⟩
    rw [show 100 * t + i + k = 100 * t + (i + k) by omega] at e13
    have r2 : mr D13 t = fun j => if j = i + k then (F * mr D b k + mr D t (i + k) + cy) % 16777216 else mr D t j := by rw [e13, mr_w]
    have hm2 : MB * ((F * mr D b k + mr D t (i + k) + cy) / 16777216) + (F * mr D b k + mr D t (i + k) + cy) % 16777216 = cy + (mr D t (i + k) + F * mr D b k) := by simp only [MB]; omega
    refine ih (k + 1) ((F * mr D b k + mr D t (i + k) + cy) / 16777216) D13 _ _ _ (by omega) (by omega) (by omega) (by simp only [MB]; omega) (hf.tr (by rw [e13]; exact F1.w9 (by omega))) (by rw [e13, zw_off (by decide), hs]) (fun j q q2 => ?_) ?_ ?_
    · rw [r2]
      show (if j = i + k then _ else _) = _
      rw [if_neg (by omega)]
      exact hj j (by omega) q2
    · rw [r2]; exact Dg_set hd (by simp only [MB]; omega)
    · rw [r2, show i + (k + 1) = i + k + 1 by omega, Ds_up (by omega), pw_s MB (by omega), Ds_s (f := mr D1 t) (by omega), Ds_s hk0]
      have hq := carry_eq (B := MB) hv hm2
      rw [hq, ← hj (i + k) (Int.le_refl _) (by omega), ← hc2, pw_add MB hi hk0]
      grind
theorem mmul_outer (ha : 0 ≤ a ∧ a < 260) (hb : 0 ≤ b ∧ b < 260) (ht : 0 ≤ t ∧ t < 260) (hat : a ≠ t) (hbt : b ≠ t) (h : Mn D0 a v) (h' : Mn D0 b w) {sa sb m : Int} (hs : D0 710 a = sa) (hs' : D0 710 b = sb) (hm : m = sa + sb) (hm100 : m ≤ 100) :
    ∀ (s : Nat) (i : Int) (D : DD) (z4 z6 z7 z8 z9 z10 z11 z12 : VV), i + s = sa → 0 ≤ i → F1 t D0 D → D 710 t = m → Dg (mr D t) MB m → (∀ j, i + sb ≤ j → j < m → mr D t j = 0) → Ds (mr D t) MB m = Ds (mr D0 a) MB i * w →
    Sg g M_Mo_multiply (rV (fun D' => Mn D' t (v * w) ∧ F1 t D0 D')) 55 [vR 708, vI a, vI b, vI t, z4, vI i, z6, z7, z8, z9, z10, z11, z12] [] D := by
  have a1 := h.1
  have b1 := h'.1
  intro s
  induction s with
  | zero =>
    intro i D z4 z6 z7 z8 z9 z10 z11 z12 hn hi hf hmt hd hz hv
    have hb1 : D 710 a = sa := by rw [(hf.2 a (by omega) (by omega)).1]; exact hs
    have : i = sa := by omega
    subst this
    have hvv : Ds (mr D0 a) MB i = v := by rw [← hs]; exact h.2.2.2
    refine s_Mo_multiply_55 ⟨ha, fun _ => ?_, fun q => by omega⟩
    exact (mtrim_ok ht (v := v * w) ⟨by omega, by rw [hmt]; exact hd, by rw [hmt, hv, hvv]⟩).mono (fun D' r => s_Mo_multiply_205 (retV ⟨r.1, hf.tr r.2⟩))
  | succ s ih =>
    intro i D z4 z6 z7 z8 z9 z10 z11 z12 hn hi hf hmt hd hz hv
    have fa := hf.2 a (by omega) (by omega)
    have fb := hf.2 b (by omega) (by omega)
    have hF := h.2.1 i hi (by omega)
    have ei : mr D a i = mr D0 a i := fa.2 i hi (by omega)
    have hw : Ds (mr D b) MB sb = w := by rw [Ds_congr fun j j1 j2 => fb.2 j j1 (by omega), ← hs']; exact h'.2.2.2
    have hvi : Ds (mr D0 a) MB (i + 1) = Ds (mr D0 a) MB i + mr D0 a i * MB ^ i.toNat := Ds_s hi
    have em : D 709 (100 * a + i) = mr D a i := rfl
    have hdb : Dg (mr D b) MB sb := by rw [← hs']; exact h'.2.1.congr fun j j1 j2 => fb.2 j j1 (by omega)
    refine s_Mo_multiply_55 ⟨ha, fun q => by omega, fun _ => ⟨⟨by unfold R32; omega, by unfold R32; omega, by omega⟩, ?_⟩⟩
    rw [em, ei]
    refine mmul_inner (D1 := D) ha hb ht hbt hdb (by rw [fb.1]; exact hs') hi (by omega) hF hm100 (by omega) (fun cy D2 h1 h2 f2 hs2 hj hd2 hv2 D9 e9 => ?_) sb.toNat 0 0 D _ _ _ (by omega) (by decide) (by decide) (by decide) FM.rf rfl (fun _ _ _ => rfl) hd (by rw [Int.add_zero]; simp [Ds_0])
    rw [hw] at hv2
    rw [show 100 * t + i + sb = 100 * t + (i + sb) by omega] at e9
    have hsum : Ds (mr D t) MB m + mr D0 a i * w * MB ^ i.toNat = Ds (mr D0 a) MB (i + 1) * w := by rw [hv, hvi]; grind
    have hzz : Ds (mr D t) MB m = Ds (mr D t) MB (i + sb) := Ds_z (by omega) (by omega) hz
    have r2 : mr D9 t = fun j => if j = i + sb then cy else mr D2 t j := by rw [e9, mr_w]
    have hzero : ∀ j, i + 1 + sb ≤ j → j < m → mr D9 t j = 0 := fun j q1 q2 => by
      rw [r2]
      show (if j = i + sb then _ else _) = _
      rw [if_neg (by omega), hj j (by omega) (by omega)]
      exact hz j (by omega) q2
    refine ih (i + 1) D9 _ _ _ _ _ _ _ _ (by omega) (by omega) ((hf.tr f2).tr (by rw [e9]; exact F1.w9 (by omega))) (by rw [e9, zw_off (by decide), hs2, hmt]) (by rw [r2]; exact Dg_set hd2 ⟨h1, h2⟩) hzero ?_
    rw [Ds_z (n := i + sb + 1) (by omega) (by omega) (fun j q1 q2 => hzero j (by omega) q2), r2, Ds_up (by omega), hv2, ← hzz]
    exact hsum
theorem mmul_zero (ha : 0 ≤ a ∧ a < 260) (ht : 0 ≤ t ∧ t < 260) {mx : Int} (hm100 : mx ≤ 100) {P : DD → Prop}
    (hk : ∀ D, F1 t D0 D → D 710 t = mx → (∀ j, 0 ≤ j → j < mx → mr D t j = 0) → Sg g M_Mo_multiply (rV P) 55 [vR 708, vI a, vI b, vI t, vI mx, vI 0, vU, vU, vU, vU, vU, vU, vU] [] D) : ∀ (s : Nat) (x : Int) (D : DD) (z6 z7 z8 z9 z10 z11 z12 : VV), x + s = mx → 0 ≤ x → F1 t D0 D → (∀ j, 0 ≤ j → j < x → mr D t j = 0) →
    Sg g M_Mo_multiply (rV P) 18 [vR 708, vI a, vI b, vI t, vI mx, vI x, z6, z7, z8, z9, z10, z11, z12] [] D := by
  intro s
  induction s with
  | zero =>
    intro x D z6 z7 z8 z9 z10 z11 z12 hs hx hf hz
    obtain rfl : x = mx := by omega
    refine s_Mo_multiply_18 ⟨fun _ => ⟨ht, fun D3 e3 => ?_⟩, fun q => by omega⟩
    exact hk D3 (hf.tr (by rw [e3]; exact F1.w0)) (by rw [e3, zw_eq]) (fun j j1 j2 => by rw [e3, mr_s]; exact hz j j1 j2)
  | succ s ih =>
    intro x D z6 z7 z8 z9 z10 z11 z12 hs hx hf hz
    refine s_Mo_multiply_18 ⟨fun q => by omega, fun _ => ⟨⟨by unfold R32; omega, by unfold R32; omega, by omega⟩, fun D8 e8 => ⟨by unfold R32; omega, ?_⟩⟩⟩
    refine ih (x + 1) D8 _ _ _ _ _ _ _ (by omega) (by omega) (hf.tr (by rw [e8]; exact F1.w9 (by omega))) (fun j j1 j2 => ?_)
    rw [e8, mr_w]
    show (if j = x then _ else _) = _
    split
    · rfl
    · exact hz j j1 (by omega)
theorem mmul_ok (ha : 0 ≤ a ∧ a < 260) (hb : 0 ≤ b ∧ b < 260) (ht : 0 ≤ t ∧ t < 260) (hat : a ≠ t) (hbt : b ≠ t) (h : Mn D a v) (h' : Mn D b w) (hv : v < MB ^ 50) (hw : w < MB ^ 50) : CV g M_Mo_multiply [vR 708, vI a, vI b, vI t] D (fun D' => Mn D' t (v * w) ∧ F1 t D D') := by
  have a1 := h.1
  have b1 := h'.1
  have s1 := h.size_le (k := 50) (by decide) hv
  have s2 := h'.size_le (k := 50) (by decide) hw
  refine CV.intro mc_Mo_multiply (Nat.le_of_ble_eq_true rfl) rfl (s_Mo_multiply_0 ⟨⟨ha, hb, by unfold R32; omega⟩, ?_⟩)
  refine mmul_zero (D0 := D) ha ht (mx := D 710 a + D 710 b) (by omega) (fun D1 f1 hm hz => ?_) (D 710 a + D 710 b).toNat 0 D _ _ _ _ _ _ _ (by omega) (by decide) FM.rf (fun j j1 j2 => by omega)
  have key := mmul_outer (g := g) (D0 := D1) ha hb ht hat hbt (h.f1 f1 hat) (h'.f1 f1 hbt) (sa := D 710 a) (sb := D 710 b) (m := D 710 a + D 710 b) (f1.2 a (by omega) (by omega)).1 (f1.2 b (by omega) (by omega)).1 rfl (by omega) (D 710 a).toNat 0 D1 (vI (D 710 a + D 710 b)) vU vU vU vU vU vU vU (by omega) (by decide) FM.rf hm (fun j j1 j2 => by rw [hz j j1 j2]; decide) (fun j j1 j2 => hz j (by omega) j2) ?_
  · exact zg_post key (fun r E' D' q => ⟨q.1, q.2.1, q.2.2.1, f1.tr q.2.2.2⟩)
  · rw [Ds_0, Ds_z (n := 0) (by decide) (by omega) (fun j j1 j2 => hz j (by omega) j2), Ds_0]
    simp
end MN3
