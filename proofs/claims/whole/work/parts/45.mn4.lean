/-! the model's numbers: isEven, common -/
theorem even_digit {f : Int → Int} {s : Int} (hs : 0 < s) : Ds f MB s % 2 = f 0 % 2 := by
  have h := Ds_wn (f := f) (b := MB) (x := 1) (n := s - 1) (by decide) (by omega)
  generalize Ds (wn f 1) MB (s - 1) = q at h
  have e1 : Ds f MB 1 = f 0 := by
    rw [show (1 : Int) = 0 + 1 from rfl, Ds_s (Int.le_refl 0), Ds_0]
    have e : MB ^ (0 : Int).toNat = 1 := rfl
    rw [e]
    omega
  have e2 : MB ^ (1 : Int).toNat = 16777216 := by decide
  rw [show 1 + (s - 1) = s by omega, e1, e2] at h
  omega
theorem g_22 {x y : Int} (hx : x % 2 = 0) (hy : y % 2 = 0) : gcdi x y = gcdi (x / 2) (y / 2) * 2 := by
  have e1 : x = 2 * (x / 2) := by omega
  have e2 : y = 2 * (y / 2) := by omega
  have : gcdi (2 * (x / 2)) (2 * (y / 2)) = gcdi (x / 2) (y / 2) * 2 := by
    unfold gcdi
    rw [Int.gcd_mul_left]
    show (((2 * Int.gcd (x / 2) (y / 2) : Nat)) : Int) = _
    omega
  rw [← e1, ← e2] at this
  exact this
theorem g_2o {y : Int} (hy : y % 2 = 1) : Int.gcd 2 y = 1 := by
  rw [Int.gcd_eq_one_iff]
  intro c h1 h2
  have e : (1 : Int) = y - 2 * (y / 2) := by omega
  rw [e]
  exact Int.dvd_sub h2 (Int.dvd_trans h1 (Int.dvd_mul_right _ _))
theorem g_eo {x y : Int} (hx : x % 2 = 0) (hy : y % 2 = 1) : gcdi (x / 2) y = gcdi x y := by
  have e : x = x / 2 * 2 := by omega
  have h := Int.gcd_mul_left_left_of_gcd_eq_one (k := x / 2) (g_2o hy)
  rw [← e] at h
  unfold gcdi
  rw [h]
theorem g_oe {x y : Int} (hx : x % 2 = 1) (hy : y % 2 = 0) : gcdi x (y / 2) = gcdi x y := by
  rw [gcdi_comm, g_eo hy hx, gcdi_comm]
theorem g_sl {x y : Int} : gcdi y (x - y) = gcdi x y := by
  unfold gcdi
  rw [Int.gcd_sub_self_right, Int.gcd_comm]
theorem g_sr {x y : Int} : gcdi x (y - x) = gcdi x y := by
  unfold gcdi
  rw [Int.gcd_sub_self_right]
section MN4
variable {g : GG} {D D0 : DD} {n a b v w x y : Int}
theorem meven_ok (hn : 0 ≤ n ∧ n < 260) (h : Mn D n v) : CI g M_Mo_isEven [vR 708, vI n] D (fun r D' => D' = D ∧ r = if v % 2 = 0 then 1 else 0) := by
  have h1 := h.1
  refine CI.intro mc_Mo_isEven (Nat.le_of_ble_eq_true rfl) rfl (s_Mo_isEven_0 ⟨hn, fun q => s_Mo_isEven_23 (retI ⟨rfl, ?_⟩), fun q => ?_⟩)
  · have : v = 0 := by rw [← h.2.2.2, q, Ds_0]
    rw [if_pos (by omega)]
  · have hd := h.2.1 0 (by decide) (by omega)
    have e : D 709 (100 * n) = mr D n 0 := by unfold mr; rw [Int.add_zero]
    have ev := even_digit (f := mr D n) (s := D 710 n) (by omega)
    rw [h.2.2.2] at ev
    rw [e]
    refine ⟨⟨by unfold R32; omega, by omega, hd.1⟩, fun q2 => retI ⟨rfl, ?_⟩, fun q2 => s_Mo_isEven_23 (retI ⟨rfl, ?_⟩)⟩
    · rw [if_neg (by omega)]
    · rw [if_pos (by omega)]
theorem mcom_tail {G tw : Int} (hG : G < MB ^ 100) (htw : tw < 2147483647) : ∀ (s : Nat) (i x : Int) (D : DD) (z1 z2 : VV), i + s = tw → 0 ≤ i → Mn D 248 x → x * 2 ^ s = G → FM 248 251 248 251 D0 D →
    Sg g M_Mo_common (rV (fun D' => Mn D' 248 G ∧ FM 248 251 248 251 D0 D')) 198 [vR 708, z1, z2, vI tw, vI i] [] D := by
  intro s
  induction s with
  | zero =>
    intro i x D z1 z2 hs hi hx hg hf
    rw [Int.pow_zero, Int.mul_one] at hg
    subst hg
    exact s_Mo_common_198 ⟨fun _ => retV ⟨hx, hf⟩, fun q => by omega⟩
  | succ s ih =>
    intro i x D z1 z2 hs hi hx hg hf
    have x0 := hx.nn
    rw [Int.pow_succ] at hg
    have e : x * 2 * 2 ^ s = G := by rw [← hg]; grind
    have p := pw_pos (b := 2) (by decide) s
    have hb : x * 2 * 1 ≤ x * 2 * 2 ^ s := Int.mul_le_mul_of_nonneg_left (by omega) (by omega)
    refine s_Mo_common_198 ⟨fun q => by omega, fun _ => (mtimes_ok (by decide) hx (by decide) (by omega)).mono fun D2 r => s_Mo_common_212 ⟨by unfold R32; omega, ih (i + 1) (x * 2) D2 _ _ (by omega) (by omega) r.1 e (hf.tr (FM.f1 r.2 (by omega)))⟩⟩
theorem mcom_A {Q : Option VV → EE → DD → Prop} {tw G y : Int} {N2 : Nat} (hk : ∀ x D z1 z2 z4, Mn D 248 x → Mn D 249 y → 0 < x → x % 2 = 1 → gcdi x y = G → FM 248 251 248 251 D0 D → x + y < N2 → Sg g M_Mo_common Q 97 [vR 708, z1, z2, vI tw, z4] [] D) :
    ∀ (N : Nat) (x : Int) (D : DD) (z1 z2 z4 : VV), x + y < N → x + y < N2 → 0 < y → Mn D 248 x → Mn D 249 y → 0 < x → (x % 2 = 1 ∨ y % 2 = 1) → gcdi x y = G → FM 248 251 248 251 D0 D → Sg g M_Mo_common Q 74 [vR 708, z1, z2, vI tw, z4] [] D := by
  intro N
  induction N with
  | zero => intro x D z1 z2 z4 hN; omega
  | succ N ih =>
    intro x D z1 z2 z4 hN hN2 hy0 hx hy hx0 ho hg hf
    refine s_Mo_common_74 ((meven_ok (by decide) hx).mono fun r D2 q => ?_)
    obtain ⟨rfl, rfl⟩ := q
    rcases (show x % 2 = 0 ∨ x % 2 = 1 by omega) with z | z
    · rw [if_pos z]
      refine s_Mo_common_81 ⟨fun q => by omega, fun _ => (mdiv_ok (by decide) hx (f := 2) (by decide)).mono fun r D3 q => s_Mo_common_92 ?_⟩
      exact ih (x / 2) D3 _ _ _ (by omega) (by omega) hy0 q.1 (hy.f1 q.2.1 (by decide)) (by omega) (Or.inr (by omega)) (by rw [g_eo z (by omega)]; exact hg) (hf.tr (FM.f1 q.2.1 (by omega)))
    · rw [if_neg (by omega)]
      exact s_Mo_common_81 ⟨fun _ => hk x D2 _ _ _ hx hy hx0 z hg hf hN2, fun q => by omega⟩
theorem mcom_B {Q : Option VV → EE → DD → Prop} {tw G x : Int} {N2 : Nat} (hx1 : x % 2 = 1) (hk : ∀ y D, Mn D 248 x → Mn D 249 y → 0 < y → y % 2 = 1 → gcdi x y = G → FM 248 251 248 251 D0 D → x + y < N2 → CI g M_Mo_order [vR 708, vI 248, vI 249] D (fun v2 D' => Sg g M_Mo_common Q 130 [vR 708, vU, vU, vI tw, vU] [vI v2] D')) :
    ∀ (N : Nat) (y : Int) (D : DD) (z1 z2 z4 : VV), y < N → x + y < N2 → 0 < y → Mn D 248 x → Mn D 249 y → gcdi x y = G → FM 248 251 248 251 D0 D → Sg g M_Mo_common Q 97 [vR 708, z1, z2, vI tw, z4] [] D := by
  intro N
  induction N with
  | zero => intro y D z1 z2 z4 hN; omega
  | succ N ih =>
    intro y D z1 z2 z4 hN hN2 hy0 hx hy hg hf
    refine s_Mo_common_97 ((meven_ok (by decide) hy).mono fun r D2 q => ?_)
    obtain ⟨rfl, rfl⟩ := q
    rcases (show y % 2 = 0 ∨ y % 2 = 1 by omega) with z | z
    · rw [if_pos z]
      refine s_Mo_common_104 ⟨fun q => by omega, fun _ => (mdiv_ok (by decide) hy (f := 2) (by decide)).mono fun r D3 q => s_Mo_common_115 ?_⟩
      exact ih (y / 2) D3 _ _ _ (by omega) (by omega) (by omega) (hx.f1 q.2.1 (by decide)) q.1 (by rw [g_oe hx1 z]; exact hg) (hf.tr (FM.f1 q.2.1 (by omega)))
    · rw [if_neg (by omega)]
      exact s_Mo_common_104 ⟨fun _ => hk y D2 hx hy hy0 z hg hf hN2, fun q => by omega⟩
theorem mcom_main {G G2 tw : Int} (hG : G2 < MB ^ 100) (htw : 0 ≤ tw ∧ tw < 2147483647) (hGG : G * 2 ^ tw.toNat = G2) : ∀ (N : Nat) (x y : Int) (D : DD) (z1 z2 z4 : VV), x + y < N → Mn D 248 x → Mn D 249 y → 0 < x → (x % 2 = 1 ∨ y % 2 = 1) → gcdi x y = G → FM 248 251 248 251 D0 D →
    Sg g M_Mo_common (rV (fun D' => Mn D' 248 G2 ∧ FM 248 251 248 251 D0 D')) 63 [vR 708, z1, z2, vI tw, z4] [] D := by
  intro N
  induction N with
  | zero => intro x y D z1 z2 z4 hN hx hy; have := hx.nn; have := hy.nn; omega
  | succ N ih =>
    intro x y D z1 z2 z4 hN hx hy hx0 ho hg hf
    have hp := hy.pos
    have y0 := hy.nn
    refine s_Mo_common_63 ⟨fun q => ?_, fun q => ?_⟩
    · have : y = 0 := by omega
      subst this
      rw [gcdi_0 (by omega)] at hg
      subst hg
      exact mcom_tail hG htw.2 tw.toNat 0 x D _ _ (by omega) (by decide) hx hGG hf
    · refine mcom_A (G := G) (y := y) (N2 := N + 1) (fun x2 D2 z1 z2 z4 hx2 hy2 hx02 hx12 hg2 hf2 hN2 => ?_) (N + 1) x D _ _ _ hN hN (by omega) hx hy hx0 ho hg hf
      refine mcom_B (G := G) (x := x2) (N2 := N + 1) hx12 (fun y3 D3 hx3 hy3 hy03 hy13 hg3 hf3 hN3 => ?_) (N + 1) y D2 _ _ _ (by omega) hN2 (by omega) hx2 hy2 hg2 hf2
      refine (morder_ok (by decide) (by decide) hx3 hy3).mono fun r D4 q => ?_
      obtain ⟨rfl, rfl⟩ := q
      refine s_Mo_common_130 ⟨fun q => ?_, fun q => ?_⟩
      · have hle : x2 ≤ y3 := by
          unfold scmp at q
          split at q
          · omega
          · split at q <;> omega
        refine (msub_ok (by decide) (by decide) (by decide) (by decide) hy3 hx3 hle).mono fun D5 r => s_Mo_common_192 ?_
        exact ih x2 (y3 - x2) D5 _ _ _ (by omega) (hx3.f1 r.2 (by decide)) r.1 hx02 (Or.inl hx12) (by rw [g_sr]; exact hg3) (hf3.tr (FM.f1 r.2 (by omega)))
      · have hlt : y3 < x2 := by
          unfold scmp at q
          split at q
          · omega
          · split at q <;> omega
        refine (msub_ok (by decide) (by decide) (by decide) (by decide) hx3 hy3 (by omega)).mono fun D5 r5 => s_Mo_common_146 ?_
        refine (mcopy_ok (by decide) (by decide) (by decide) r5.1).mono fun D6 r6 => s_Mo_common_156 ?_
        have hy6 := (hy3.f1 r5.2 (by decide)).f1 r6.2 (by decide)
        refine (mcopy_ok (by decide) (by decide) (by decide) hy6).mono fun D7 r7 => s_Mo_common_166 ?_
        have hx7 := r6.1.f1 r7.2 (by decide)
        refine (mcopy_ok (by decide) (by decide) (by decide) hx7).mono fun D8 r8 => s_Mo_common_176 ?_
        refine ih y3 (x2 - y3) D8 _ _ _ (by omega) (r7.1.f1 r8.2 (by decide)) r8.1 hy03 (Or.inl hy13) (by rw [g_sl]; exact hg3) ?_
        exact (hf3.tr (FM.f1 r5.2 (by omega))).tr ((FM.f1 r6.2 (by omega)).tr ((FM.f1 r7.2 (by omega)).tr (FM.f1 r8.2 (by omega))))
theorem mcom_twos {G : Int} (hG : G < MB ^ 100) : ∀ (N : Nat) (x y tw : Int) (D : DD) (z1 z2 z4 : VV), 0 < x → 0 < y → x < 2 ^ N → 0 ≤ tw → tw + N < 2147483647 → Mn D 248 x → Mn D 249 y → gcdi x y * 2 ^ tw.toNat = G → FM 248 251 248 251 D0 D →
    Sg g M_Mo_common (rV (fun D' => Mn D' 248 G ∧ FM 248 251 248 251 D0 D')) 18 [vR 708, z1, z2, vI tw, z4] [] D := by
  intro N
  induction N with
  | zero => intro x y tw D z1 z2 z4 hx0 hy0 hlt; rw [Int.pow_zero] at hlt; omega
  | succ N ih =>
    intro x y tw D z1 z2 z4 hx0 hy0 hlt ht0 htN hx hy hg hf
    refine s_Mo_common_18 ((meven_ok (by decide) hx).mono fun r D2 q => ?_)
    obtain ⟨rfl, rfl⟩ := q
    have main : (x % 2 = 1 ∨ y % 2 = 1) → ∀ z1 z2 z4, Sg g M_Mo_common (rV (fun D' => Mn D' 248 G ∧ FM 248 251 248 251 D0 D')) 63 [vR 708, z1, z2, vI tw, z4] [] D2 := fun ho z1 z2 z4 =>
      mcom_main hG (by omega) hg (x + y + 1).toNat x y D2 _ _ _ (by omega) hx hy hx0 ho rfl hf
    refine s_Mo_common_25 ⟨fun q => main (Or.inl ?_) _ _ _, fun q => (meven_ok (by decide) hy).mono fun r D3 q3 => ?_⟩
    · rcases (show x % 2 = 0 ∨ x % 2 = 1 by omega) with z | z
      · rw [if_pos z] at q; omega
      · exact z
    · obtain ⟨rfl, rfl⟩ := q3
      have hxe : x % 2 = 0 := by
        rcases (show x % 2 = 0 ∨ x % 2 = 1 by omega) with z | z
        · exact z
        · rw [if_neg (by omega)] at q; omega
      refine s_Mo_common_35 ⟨fun q => main (Or.inr ?_) _ _ _, fun q => ?_⟩
      · rcases (show y % 2 = 0 ∨ y % 2 = 1 by omega) with z | z
        · rw [if_pos z] at q; omega
        · exact z
      · have hye : y % 2 = 0 := by
          rcases (show y % 2 = 0 ∨ y % 2 = 1 by omega) with z | z
          · exact z
          · rw [if_neg (by omega)] at q; omega
        refine (mdiv_ok (by decide) hx (f := 2) (by decide)).mono fun r4 D4 q4 => s_Mo_common_46 ?_
        refine (mdiv_ok (by decide) (hy.f1 q4.2.1 (by decide)) (f := 2) (by decide)).mono fun r5 D5 q5 => s_Mo_common_54 ⟨⟨?_, by unfold R32; omega⟩, ?_⟩
        · have := q4.2.2
          have := q5.2.2
          unfold R32
          omega
        · rw [Int.pow_succ] at hlt
          refine ih (x / 2) (y / 2) (tw + 1) D5 _ _ _ (by omega) (by omega) (by omega) (by omega) (by omega) (q4.1.f1 q5.2.1 (by decide)) q5.1 ?_ (hf.tr ((FM.f1 q4.2.1 (by omega)).tr (FM.f1 q5.2.1 (by omega))))
          rw [g_22 hxe hye] at hg
          rw [pw_s 2 ht0, ← hg]
          grind
theorem mcom_ok (ha : 0 ≤ a ∧ a < 248) (hb : 0 ≤ b ∧ b < 248) (h : Mn D a v) (h' : Mn D b w) (hv : 0 < v) (hw : 0 < w) : CV g M_Mo_common [vR 708, vI a, vI b] D (fun D' => Mn D' 248 (gcdi v w) ∧ FM 248 251 248 251 D D') := by
  have hlt : v < MB ^ 100 := Int.lt_of_lt_of_le h.lt (pw_le MB_ge (y := 100) h.1.2)
  have hltw : w < MB ^ 100 := Int.lt_of_lt_of_le h'.lt (pw_le MB_ge (y := 100) h'.1.2)
  have e : MB ^ 100 = 2 ^ 2400 := by decide +kernel
  refine CV.intro mc_Mo_common (Nat.le_of_ble_eq_true rfl) rfl (s_Mo_common_0 ((mcopy_ok (by omega) (by decide) (by omega) h).mono fun D2 r2 => s_Mo_common_8 ((mcopy_ok (by omega) (by decide) (by omega) (h'.f1 r2.2 (by omega))).mono fun D3 r3 => s_Mo_common_16 ?_)))
  have gl := gcdi_le (x := v) hw
  refine mcom_twos (by omega) 2400 v w 0 D3 _ _ _ hv hw (by omega) (by decide) (by decide) (r2.1.f1 r3.2 (by decide)) r3.1 ?_ ((FM.f1 r2.2 (by omega)).tr (FM.f1 r3.2 (by omega)))
  show gcdi v w * 2 ^ (0 : Nat) = _
  rw [Int.pow_zero, Int.mul_one]
end MN4
