/-! the Natural: setProduct, guessMultiple, takeMultiple -/
theorem Ds_z {f : Int → Int} {b n m : Int} (hn : 0 ≤ n) (h : n ≤ m) (hz : ∀ j, n ≤ j → j < m → f j = 0) : Ds f b m = Ds f b n := by
  have key : ∀ k, 0 ≤ k → n + k ≤ m → Ds f b (n + k) = Ds f b n := by
    refine zind (P := fun k => n + k ≤ m → Ds f b (n + k) = Ds f b n) (fun _ => by rw [Int.add_zero]) (fun k hk ih q => ?_)
    rw [← Int.add_assoc, Ds_s (by omega), ih (by omega), hz (n + k) (by omega) (by omega)]
    omega
  have := key (m - n) (by omega) (by omega)
  rwa [show n + (m - n) = m by omega] at this
section NA4
variable {g : GG} {D D0 D1 : DD} {a b c : Nat} {v w : Int}
/-- what a walk over the digits of a leaves as it was -/
def Ro (D0 D : DD) (a : Nat) : Prop := ∀ q, q ≠ a + 1 → D q = D0 q
theorem Ro.rf : Ro D D a := fun _ _ => rfl
theorem Ro.st {i x : Int} (h : Ro D0 D a) : Ro D0 (zw D (a + 1) i x) a := fun q hq => by rw [zw_off hq]; exact h q hq
theorem Ro.fa (h : Ro D0 D a) : Fa D0 D a := fun q _ h2 => h q h2
theorem prod_inner (ka : zk a = (0, 3, 0)) (kb : zk b = (0, 3, 0)) (kc : zk c = (0, 3, 0)) {m i F t : Int} {Q : Option VV → EE → DD → Prop} (hdc : Dg (D1 (c + 1)) BB t) (hct : D1 c 1 = t) (hca : c ≠ a) (hi : 0 ≤ i) (hF : 0 ≤ F ∧ F < BB) (hm : m ≤ 32) (him : i + t ≤ m + 1) (hit : ∀ k, k < t → i + k < m)
    (hk : ∀ (cy : Int) (D : DD), 0 ≤ cy → cy < BB → Ro D1 D a → (∀ j, i + t ≤ j → D (a + 1) j = D1 (a + 1) j) → Dg (D (a + 1)) BB m → Ds (D (a + 1)) BB (i + t) + cy * BB ^ (i + t).toNat = Ds (D1 (a + 1)) BB (i + t) + F * Ds (D1 (c + 1)) BB t * BB ^ i.toNat → Sg g M_Na_setProduct Q 129 [vR a, vR b, vR c, vI m, vI i, vL F, vU, vL cy, vU, vI t] [] D) :
    ∀ (n : Nat) (k cy : Int) (D : DD), k + n = t → 0 ≤ k → 0 ≤ cy → cy < BB → Ro D1 D a → (∀ j, i + k ≤ j → D (a + 1) j = D1 (a + 1) j) → Dg (D (a + 1)) BB m → Ds (D (a + 1)) BB (i + k) + cy * BB ^ (i + k).toNat = Ds (D1 (a + 1)) BB (i + k) + F * Ds (D1 (c + 1)) BB k * BB ^ i.toNat →
    Sg g M_Na_setProduct Q 53 [vR a, vR b, vR c, vI m, vI i, vL F, vU, vL cy, vU, vI k] [] D := by
  intro n
  induction n with
  | zero =>
    intro k cy D hn hk0 h1 h2 hf hj hd hv
    have : k = t := by omega
    subst this
    have hc1 : D c = D1 c := hf c (na_ne ka kc)
    exact s_Na_setProduct_53 ka kb kc ⟨fun _ => hk cy D h1 h2 hf hj hd hv, fun q => by rw [hc1] at q; omega⟩
  | succ n ih =>
    intro k cy D hn hk0 h1 h2 hf hj hd hv
    have hc1 : D c = D1 c := hf c (na_ne ka kc)
    have hc2 : D (c + 1) = D1 (c + 1) := hf (c + 1) (fun q => hca (Nat.succ.inj q))
    have hlt := hit k (by omega)
    have hdk := hdc k hk0 (by omega)
    have hrk := hd (i + k) (by omega) hlt
    have e : (2 : Int) ^ 31 = BB := by decide
    rw [← hc2] at hdk
    simp only [BB] at hdk hrk hF h2
    have m1 : 0 ≤ F * D (c + 1) k := Int.mul_nonneg hF.1 hdk.1
    have m2 : F * D (c + 1) k ≤ 2147483647 * 2147483647 := by
      have q1 : F * D (c + 1) k ≤ F * 2147483647 := Int.mul_le_mul_of_nonneg_left (by omega) hF.1
      have q2 : F * 2147483647 ≤ 2147483647 * 2147483647 := Int.mul_le_mul_of_nonneg_right (by omega) (by decide)
      omega
    have hr : 0 ≤ (cy + (D (a + 1) (i + k) + F * D (c + 1) k)) % 2 ^ 31 ∧ (cy + (D (a + 1) (i + k) + F * D (c + 1) k)) % 2 ^ 31 < BB := by rw [e]; simp only [BB]; omega
    refine s_Na_setProduct_53 ka kb kc ⟨fun q => by rw [hc1] at q; omega, fun _ => ⟨by omega, fun q => by omega, fun _ => ⟨⟨by omega, by omega, by omega, by omega, by omega, by omega, by omega, by simp only [BB] at hr; omega, by omega⟩, fun D13 e13 => ⟨by omega, ?_⟩⟩⟩⟩
    have r2 : D13 (a + 1) = fun j => if j = i + k then (cy + (D (a + 1) (i + k) + F * D (c + 1) k)) % 2 ^ 31 else D (a + 1) j := by rw [e13, zw_row]
    have hm2 := Int.mul_ediv_add_emod (cy + (D (a + 1) (i + k) + F * D (c + 1) k)) (2 ^ 31)
    refine ih (k + 1) ((cy + (D (a + 1) (i + k) + F * D (c + 1) k)) / 2 ^ 31) D13 (by omega) (by omega) (by rw [e]; simp only [BB]; omega) (by rw [e]; simp only [BB]; omega) (by rw [e13]; exact hf.st) (fun j q => ?_) ?_ ?_
    · rw [r2]
      show (if j = i + k then _ else _) = _
      rw [if_neg (by omega)]
      exact hj j (by omega)
    · rw [r2]; exact Dg_set hd hr
    · rw [r2, show i + (k + 1) = i + k + 1 by omega, Ds_up (by omega), pw_s BB (by omega), Ds_s (f := D1 (a + 1)) (by omega), Ds_s hk0]
      have hq := carry_eq (B := BB) hv (by rw [← e]; exact hm2)
      rw [hq, ← hj (i + k) (Int.le_refl _), ← hc2, pw_add BB hi hk0]
      grind
theorem prod_size {s t : Int} (hb : Na D b v) (hc : Na D c w) (hs : D b 1 = s) (ht : D c 1 = t) (hvw : v * w < BB ^ 32) : s + t ≤ 33 := by
  have b1 := hb.1
  have c1 := hc.1
  rcases hb.2.2.1 with q | q
  · omega
  · rcases hc.2.2.1 with q2 | q2
    · omega
    · have p1 := pw_pos BB_pos (D b 1 - 1).toNat
      have p2 := pw_pos BB_pos (D c 1 - 1).toNat
      have h1 : BB ^ (D b 1 - 1).toNat * BB ^ (D c 1 - 1).toNat ≤ v * w := Int.mul_le_mul q q2 (by omega) hb.nn
      rcases Int.lt_or_le 0 (D b 1) with z | z
      · rcases Int.lt_or_le 0 (D c 1) with z2 | z2
        · rw [← pw_add BB (by omega) (by omega)] at h1
          have := lt32 (Int.lt_of_le_of_lt h1 hvw)
          omega
        · omega
      · omega
theorem prod_outer (ka : zk a = (0, 3, 0)) (kb : zk b = (0, 3, 0)) (kc : zk c = (0, 3, 0)) (hba : b ≠ a) (hca : c ≠ a) (hb : Na D0 b v) (hc : Na D0 c w) (hvw : v * w < BB ^ 32) {s t m : Int} (hs : D0 b 1 = s) (ht : D0 c 1 = t) (hm : m = min (s + t) 32) {z5 z6 z7 z8 z9 : VV} :
    ∀ (n : Nat) (i : Int) (D : DD), i + n = s → 0 ≤ i → Ro D0 D a → Dg (D (a + 1)) BB m → (∀ j, i + t ≤ j → j < m → D (a + 1) j = 0) → Ds (D (a + 1)) BB m = Ds (D0 (b + 1)) BB i * w →
    Sg g M_Na_setProduct (rV (fun D' => Na D' a (v * w) ∧ Fa D0 D' a)) 28 [vR a, vR b, vR c, vI m, vI i, z5, z6, z7, z8, z9] [] D := by
  have b1 := hb.1
  have c1 := hc.1
  have hst := prod_size hb hc hs ht hvw
  intro n
  induction n generalizing z5 z6 z7 z8 z9 with
  | zero =>
    intro i D hn hi hf hd hz hv
    have hb1 : D b = D0 b := hf b (na_ne ka kb)
    have : i = s := by omega
    subst this
    refine s_Na_setProduct_28 ka kb kc ⟨fun _ D2 e2 => ?_, fun q => by rw [hb1] at q; omega⟩
    have r1 : D2 a 1 = m := by rw [e2, zw_eq]
    have r2 : D2 (a + 1) = D (a + 1) := by rw [e2, zw_off (a_ne' a)]
    have hvv : Ds (D0 (b + 1)) BB i = v := by rw [← hs]; exact hb.2.2.2
    refine (trim_ok ka (D := D2) (v := v * w) ⟨by rw [r1]; omega, by rw [r1, r2]; exact hd, by rw [r1, r2, hv, hvv]⟩).mono (fun D' h => s_Na_setProduct_170 (retV ⟨h.1, (hf.fa.tr (by rw [e2]; exact Fa.w0)).tr (fun c q1 q2 => h.2.2 c q1)⟩))
  | succ n ih =>
    intro i D hn hi hf hd hz hv
    have hb1 : D b = D0 b := hf b (na_ne ka kb)
    have hb2 : D (b + 1) = D0 (b + 1) := hf (b + 1) (fun q => hba (Nat.succ.inj q))
    have hc1 : D c = D0 c := hf c (na_ne ka kc)
    have hc2 : D (c + 1) = D0 (c + 1) := hf (c + 1) (fun q => hca (Nat.succ.inj q))
    have hct : D c 1 = t := by rw [hc1]; exact ht
    have hF := hb.2.1 i hi (by omega)
    have hw : Ds (D (c + 1)) BB t = w := by rw [hc2, ← ht]; exact hc.2.2.2
    have hvi : Ds (D0 (b + 1)) BB (i + 1) = Ds (D0 (b + 1)) BB i + D0 (b + 1) i * BB ^ i.toNat := Ds_s hi
    refine s_Na_setProduct_28 ka kb kc ⟨fun q => by rw [hb1] at q; omega, fun _ => ⟨by omega, ?_⟩⟩
    rw [hb2]
    refine prod_inner (D1 := D) ka kb kc (by rw [hc2, ← ht]; exact hc.2.1) hct hca hi hF (by omega) (by omega) (fun k q => by omega) (fun cy D2 h1 h2 f2 hj hd2 hv2 => ?_) t.toNat 0 0 D (by omega) (by decide) (by decide) (by decide) Ro.rf (fun _ _ => rfl) hd (by rw [Int.add_zero]; simp [Ds_0])
    have hc1' : D2 c 1 = t := by rw [f2 c (na_ne ka kc)]; exact hct
    rw [hw] at hv2
    have hz2 : Ds (D (a + 1)) BB m = Ds (D (a + 1)) BB (i + t) ∨ m < i + t := by
      rcases Int.lt_or_le m (i + t) with z | z
      · exact Or.inr z
      · exact Or.inl (Ds_z (by omega) z hz)
    have hsum : Ds (D (a + 1)) BB m + D0 (b + 1) i * w * BB ^ i.toNat = Ds (D0 (b + 1)) BB (i + 1) * w := by rw [hv, hvi]; grind
    simp only [BB] at h2
    refine s_Na_setProduct_129 ka kb kc ⟨by rw [hc1']; omega, fun q => ?_, fun q => ⟨⟨by rw [hc1']; omega, by omega, by rw [hc1'] at q ⊢; omega⟩, fun D6 e6 => ?_⟩⟩
    · rw [hc1'] at q
      have hmt : i + t = m := by omega
      have hm32 : m = 32 := by omega
      have his : i + 1 = s := by omega
      rw [hmt] at hv2
      have hlt := Ds_nn BB_pos hd2
      have hvv : Ds (D0 (b + 1)) BB (i + 1) = v := by rw [his, ← hs]; exact hb.2.2.2
      rw [hvv] at hsum
      have e32 : BB ^ m.toNat = BB ^ 32 := by rw [hm32]; rfl
      have hcy : cy = 0 := by
        rcases Int.lt_or_le 0 cy with z | z
        · have : 1 * BB ^ m.toNat ≤ cy * BB ^ m.toNat := Int.mul_le_mul_of_nonneg_right (by omega) (Int.le_of_lt (pw_pos BB_pos _))
          rw [e32] at this hv2
          omega
        · omega
      subst hcy
      refine s_Na_setProduct_155 ka kb kc ⟨by omega, ih (i + 1) D2 (by omega) (by omega) (fun q h => (f2 q h).trans (hf q h)) hd2 (fun j q1 q2 => by omega) ?_⟩
      rw [hvv, ← hsum]
      omega
    · rw [hc1'] at q e6
      have hzz : Ds (D (a + 1)) BB m = Ds (D (a + 1)) BB (i + t) := by rcases hz2 with z | z <;> omega
      have r2 : D6 (a + 1) = fun j => if j = i + t then cy else D2 (a + 1) j := by rw [e6, zw_row]
      have hcb : 0 ≤ cy ∧ cy < BB := ⟨h1, by simp only [BB]; omega⟩
      have hzero : ∀ j, i + 1 + t ≤ j → j < m → D6 (a + 1) j = 0 := fun j q1 q2 => by
        rw [r2]
        show (if j = i + t then _ else _) = _
        rw [if_neg (by omega), hj j (by omega)]
        exact hz j (by omega) q2
      refine s_Na_setProduct_155 ka kb kc ⟨by omega, ih (i + 1) D6 (by omega) (by omega) (fun q h => ?_) (by rw [r2]; exact Dg_set hd2 hcb) hzero ?_⟩
      · rw [e6, zw_off h]; exact (f2 q h).trans (hf q h)
      · rw [Ds_z (n := i + t + 1) (by omega) (by omega) (fun j q1 q2 => hzero j (by omega) q2), r2, Ds_up (by omega), hv2, ← hzz]
        exact hsum
theorem setProduct_ok (ka : zk a = (0, 3, 0)) (kb : zk b = (0, 3, 0)) (kc : zk c = (0, 3, 0)) (hba : b ≠ a) (hca : c ≠ a) (hb : Na D b v) (hc : Na D c w) (hvw : v * w < BB ^ 32) : CV g M_Na_setProduct [vR a, vR b, vR c] D (fun D' => Na D' a (v * w) ∧ Fa D D' a) := by
  have b1 := hb.1
  have c1 := hc.1
  refine CV.intro mc_Na_setProduct (Nat.le_of_ble_eq_true rfl) rfl (s_Na_setProduct_0 ka kb kc ⟨by omega, ?_⟩)
  refine (fill4_ok (zs_Na_digits ka) (by decide) ⟨by decide, by omega, by omega⟩).mono (fun D1 h => s_Na_setProduct_25 ka kb kc ?_)
  have hf : Ro D D1 a := fun q hq => h.1 q hq
  have hb1 : D1 b = D b := hf b (na_ne ka kb)
  have hc1 : D1 c = D c := hf c (na_ne ka kc)
  have hz : ∀ j, 0 ≤ j → j < min (D b 1 + D c 1) 32 → D1 (a + 1) j = 0 := fun j j1 j2 => by rw [h.2 j, if_pos ⟨j1, j2⟩]
  have hbn : Na D1 b v := hb.of hb1 (hf (b + 1) (fun q => hba (Nat.succ.inj q)))
  have hcn : Na D1 c w := hc.of hc1 (hf (c + 1) (fun q => hca (Nat.succ.inj q)))
  have key := prod_outer (g := g) (D0 := D1) ka kb kc hba hca hbn hcn hvw (s := D b 1) (t := D c 1) (by rw [hb1]) (by rw [hc1]) rfl (z5 := vU) (z6 := vU) (z7 := vU) (z8 := vU) (z9 := vU) (D b 1).toNat 0 D1 (by omega) (by decide) Ro.rf (fun j j1 j2 => by rw [hz j j1 j2]; decide) (fun j j1 j2 => hz j (by omega) j2) ?_
  · exact zg_post key (fun r E' D' q => ⟨q.1, q.2.1, q.2.2.1, hf.fa.tr q.2.2.2⟩)
  · rw [Ds_0, Ds_z (n := 0) (by decide) (by omega) (fun j j1 j2 => hz j (by omega) j2), Ds_0]
    simp
end NA4
