/-! the class's text: writeNumber, write -/
def B9 : Int := 1000000000
theorem B9_pos : (0 : Int) < B9 := by decide
theorem b9p {k : Nat} : (0 : Int) < B9 ^ k := Int.pow_pos B9_pos
theorem b9s {k j : Nat} (h : j = k + 1) : B9 ^ j = B9 ^ k * B9 := by rw [h]; exact Int.pow_succ ..
theorem b9d {v : Int} {k : Nat} (hv : 0 ≤ v) : v / B9 ^ k = v / B9 ^ (k + 1) * B9 + v / B9 ^ k % B9 := by
  rw [b9s rfl, ← Int.ediv_ediv_of_nonneg (Int.le_of_lt b9p)]
  have := Int.mul_ediv_add_emod (v / B9 ^ k) B9
  rw [Int.mul_comm] at this
  omega
section TEXT2
variable {g : GG} {D D' D0 : DD} {a : Nat} {L v : Int}
theorem zf_706 : zk 706 = (0, 3, 0) := by decide +kernel
/-- the chunks, least first -/
theorem chunks_loop (hv : 0 ≤ v) {Q : Option VV → EE → DD → Prop} (hb : v < B9 ^ 30)
    (hk : ∀ D C, 1 ≤ C → C ≤ 30 → v / B9 ^ C = 0 → (C = 1 ∨ 0 < v / B9 ^ (C - 1)) → (∀ j : Nat, j < C → D 705 j = v / B9 ^ j % B9) → (∀ c, c ≠ 705 → (c < 706 ∨ 708 ≤ c) → D c = D0 c) → ∀ z1 z3, Sg g M_Te_writeNumber Q 51 [vR 703, z1, vI C, z3] [] D) :
    ∀ (m c : Nat) (D : DD) (z1 z3 : VV), c + m = 31 → Na D 706 (v / B9 ^ c) → (∀ j : Nat, j < c → D 705 j = v / B9 ^ j % B9) → (1 ≤ c → c = 1 ∨ 0 < v / B9 ^ (c - 1)) → (∀ c', c' ≠ 705 → (c' < 706 ∨ 708 ≤ c') → D c' = D0 c') → Sg g M_Te_writeNumber Q 10 [vR 703, z1, vI c, z3] [] D := by
  intro m
  induction m with
  | zero =>
    intro c D z1 z3 hm hn hI h1 F
    exfalso
    rcases h1 (by omega) with y | y
    · omega
    · rw [show c - 1 = 30 by omega, Int.ediv_eq_zero_of_lt hv hb] at y
      omega
  | succ m ih =>
    intro c D z1 z3 hm hn hI h1 F
    have go : (c = 0 ∨ 0 < v / B9 ^ c) → ∀ z1 z3, Sg g M_Te_writeNumber Q 30 [vR 703, z1, vI c, z3] [] D := fun q z1 z3 => by
      refine s_Te_writeNumber_30 ((divideSmall_ok zf_706 hn (f := 1000000000) (by omega)).mono fun y D2 r2 => ?_)
      obtain ⟨a1, a2, rfl⟩ := r2
      refine s_Te_writeNumber_44 ⟨by omega, fun D3 e3 => ⟨by unfold R32; omega, ?_⟩⟩
      refine ih (c + 1) D3 _ _ (by omega) ?_ (fun j hj => ?_) (fun _ => ?_) (fun c' c1 c2 => ?_)
      · rw [b9s rfl, ← Int.ediv_ediv_of_nonneg (Int.le_of_lt b9p)]
        exact a1.of (by rw [e3]; exact zw_off (by omega)) (by rw [e3]; exact zw_off (by omega))
      · rcases (show j = c ∨ j < c by omega) with y | y
        · rw [y, e3, zw_eq]; rfl
        · rw [e3, zw_ne (Or.inr (by omega)), a2 705 (by omega) (by omega)]; exact hI j y
      · rcases q with y | y
        · exact Or.inl (by omega)
        · exact Or.inr y
      · rw [e3, zw_off c1, a2 c' (by omega) (by omega)]; exact F c' c1 c2
    have q0 := Int.ediv_nonneg hv (Int.le_of_lt (b9p (k := c)))
    refine s_Te_writeNumber_10 ⟨fun q => by omega, fun _ => ⟨fun q => go (Or.inl (by omega)) _ _, fun q => (isZero_ok zf_706 hn).mono fun y D2 r2 => ?_⟩⟩
    obtain ⟨rfl, rfl⟩ := r2
    refine s_Te_writeNumber_27 ⟨fun q2 => ?_, fun q2 => go (Or.inr ?_) _ _⟩
    · have z : v / B9 ^ c = 0 := Decidable.byContradiction fun z => q2 (if_neg z)
      have c30 : c ≤ 30 := by omega
      exact hk D2 c (by omega) c30 z (h1 (by omega)) hI F _ _
    · have : v / B9 ^ c ≠ 0 := fun z => by rw [if_pos z] at q2; omega
      omega
/-- then the greatest first -/
theorem write_loop (hv : 0 ≤ v) {C : Nat} {p : Int} (hC : 1 ≤ C ∧ C ≤ 30) (hz : v / B9 ^ C = 0) (ht : C = 1 ∨ 0 < v / B9 ^ (C - 1)) (hp : 0 ≤ p ∧ p ≤ 300) (hcap : p + 9 * C ≤ 721) (hch : ∀ j : Nat, j < C → D0 705 j = v / B9 ^ j % B9) :
    ∀ (i k : Nat) (D : DD) (z1 : VV), i ≤ C → k ≤ 9 * (C - i) → D 703 1 = p + k → DS0 (D 704) p (v / B9 ^ i) k → (i < C → 1 ≤ k) → (i = C → k = 0) → (∀ c, c ≠ 703 → c ≠ 704 → D c = D0 c) → FT p D0 D →
      Sg g M_Te_writeNumber (rV (fun D' => ∃ k, 1 ≤ k ∧ k ≤ 9 * C ∧ D' 703 1 = p + k ∧ DS0 (D' 704) p v k ∧ (∀ c, c ≠ 703 → c ≠ 704 → D' c = D0 c) ∧ FT p D0 D')) 55 [vR 703, z1, vI C, vI ((i : Int) - 1)] [] D := by
  intro i
  induction i with
  | zero =>
    intro k D z1 hi hk hL hD h1 h2 hF F
    have e : v / B9 ^ 0 = v := by
      have : B9 ^ 0 = 1 := by decide
      rw [this, Int.ediv_one]
    rw [e] at hD
    exact s_Te_writeNumber_55 ⟨fun _ => retV ⟨k, h1 (by omega), by omega, hL, hD, hF, F⟩, fun q => by omega⟩
  | succ i ih =>
    intro k D z1 hi hk hL hD h1 h2 hF F
    have em : ((i + 1 : Nat) : Int) - 1 = i := by omega
    rw [em]
    have c705 : D 705 i = v / B9 ^ i % B9 := by rw [hF 705 (by omega) (by omega)]; exact hch i (by omega)
    have dd : 0 ≤ v / B9 ^ i % B9 ∧ v / B9 ^ i % B9 < 1000000000 := by
      have e : B9 = 1000000000 := rfl
      rw [e]; omega
    have nx := b9d (k := i) hv
    refine s_Te_writeNumber_55 ⟨fun q => by omega, fun _ => ⟨⟨by omega, by unfold R32; omega⟩, ?_⟩⟩
    rw [c705]
    have go : ∀ wh : Int, ((wh = 0 ∧ k = 0) ∨ (wh ≠ 0 ∧ 1 ≤ k ∧ 0 < v / B9 ^ (i + 1))) → ∀ z1, Sg g M_Te_writeNumber (rV (fun D' => ∃ k, 1 ≤ k ∧ k ≤ 9 * C ∧ D' 703 1 = p + k ∧ DS0 (D' 704) p v k ∧ (∀ c, c ≠ 703 → c ≠ 704 → D' c = D0 c) ∧ FT p D0 D')) 78 [vR 703, z1, vI C, vI i] [vI wh, vI (v / B9 ^ i % B9), vR 703] D := fun wh hw z1 => by
      refine s_Te_writeNumber_78 ((writeChunk_ok hp.1 (by omega) dd hL hD hw).mono fun D2 r2 => s_Te_writeNumber_81 ⟨by unfold R32; omega, ?_⟩)
      obtain ⟨k2, a1, a2, a3, a4, a5, a6⟩ := r2
      rw [show (i : Int) + (-1) = (i : Int) - 1 by omega]
      refine ih k2 D2 _ (by omega) (by omega) a3 ?_ (fun _ => a1) (fun z => by omega) (fun c c1 c2 => (a5 c c1 c2).trans (hF c c1 c2)) (F.tr (a6.le (by omega)))
      rw [nx]; exact a4
    refine ⟨fun q => go 0 (Or.inl ⟨rfl, h2 (by omega)⟩) _, fun q => go 1 (Or.inr ⟨by omega, h1 (by omega), ?_⟩) _⟩
    rcases ht with y | y
    · omega
    · -- the prefix is not 0
      refine Decidable.byContradiction fun z => ?_
      have q0 := Int.ediv_nonneg hv (Int.le_of_lt (b9p (k := i + 1)))
      have z0 : v / B9 ^ (i + 1) = 0 := by omega
      have lt : v < B9 ^ (i + 1) := by
        refine Decidable.byContradiction fun u => ?_
        have := Int.le_ediv_of_mul_le (b9p (k := i + 1)) (a := 1) (b := v) (by omega)
        omega
      have le : B9 ^ (i + 1) ≤ B9 ^ (C - 1) := by
        obtain ⟨j, e⟩ : ∃ j, C - 1 = i + 1 + j := ⟨C - 1 - (i + 1), by omega⟩
        rw [e, Int.pow_add B9 (i + 1) j]
        have := Int.mul_le_mul_of_nonneg_left (show (1 : Int) ≤ B9 ^ j from by have := b9p (k := j); omega) (Int.le_of_lt (b9p (k := i + 1)))
        rwa [Int.mul_one] at this
      rw [Int.ediv_eq_zero_of_lt hv (by omega)] at y
      omega
theorem writeNumber_ok (ka : zk a = (0, 3, 0)) (hd : a + 1 < 703 ∨ 708 ≤ a) (h : Na D a v) (hb : v < 2 ^ 475) {p : Int} (hp : 0 ≤ p ∧ p ≤ 300) (hL : D 703 1 = p) : CV g M_Te_writeNumber [vR 703, vR a] D (fun D' => ∃ k : Nat, 1 ≤ k ∧ k ≤ 144 ∧ D' 703 1 = p + k ∧ DS0 (D' 704) p v k ∧ FT p D D') := by
  have hv := h.nn
  have b16 : (2 : Int) ^ 475 < B9 ^ 16 := by decide +kernel
  have b30 : B9 ^ 16 < B9 ^ 30 := by decide +kernel
  have e1 : v / B9 ^ 0 = v := by
    have : B9 ^ 0 = 1 := by decide
    rw [this, Int.ediv_one]
  refine CV.intro mc_Te_writeNumber (Nat.le_of_ble_eq_true rfl) rfl (s_Te_writeNumber_0 ka ((copyFrom_ok zf_706 ka h).mono fun D1 r1 => ?_))
  refine chunks_loop (D0 := D1) hv (by omega) (fun D2 C c1 c2 c3 c4 c5 c6 z1 z3 => s_Te_writeNumber_51 ⟨by unfold R32; omega, ?_⟩) 31 0 D1 _ _ (by omega) (by rw [e1]; exact r1.1) (fun j hj => by omega) (fun z => by omega) (fun _ _ _ => rfl)
  have C16 : C ≤ 16 := by
    rcases c4 with y | y
    · omega
    · refine Decidable.byContradiction fun z => ?_
      have le : B9 ^ 16 ≤ B9 ^ (C - 1) := by
        obtain ⟨j, e⟩ : ∃ j, C - 1 = 16 + j := ⟨C - 1 - 16, by omega⟩
        rw [e, Int.pow_add]
        have := Int.mul_le_mul_of_nonneg_left (show (1 : Int) ≤ B9 ^ j from by have := b9p (k := j); omega) (Int.le_of_lt (b9p (k := 16)))
        rwa [Int.mul_one] at this
      rw [Int.ediv_eq_zero_of_lt hv (by omega)] at y
      omega
  have L2 : D2 703 1 = p := by rw [c6 703 (by omega) (by omega), r1.2 703 (by omega) (by omega)]; exact hL
  refine zg_post (write_loop (D0 := D2) hv ⟨c1, by omega⟩ c3 c4 hp (by omega) c5 C 0 D2 _ (Nat.le_refl C) (by omega) (by rw [L2]; omega) (by rw [c3]; exact DS0.nil) (fun z => by omega) (fun _ => rfl) (fun _ _ _ => rfl) FT.rf) ?_
  rintro _ _ D' ⟨q1, q2, k, k1, k2, k3, k4, k5, k6⟩
  refine ⟨q1, q2, k, k1, by omega, k3, k4, fun c c1 c2 c3 c4 => ?_, fun i hi => ?_, fun i hi => ?_⟩
  · rw [k6.1 c c1 c2 c3 c4, c6 c c3 c4, r1.2 c (by omega) (by omega)]
  · rw [k6.2.1 i hi, c6 703 (by omega) (by omega), r1.2 703 (by omega) (by omega)]
  · rw [k6.2.2 i hi, c6 704 (by omega) (by omega), r1.2 704 (by omega) (by omega)]
theorem write_ok (ka : zk a = (0, 4, 0)) (hd : a + 4 < 703 ∨ 708 ≤ a) {y : Rat} (h : Fq D a y) (h1 : y.num < 2 ^ 475) (h2 : ((y.den : Nat) : Int) < 2 ^ 475) : CI g M_Te_write [vR 703, vR a] D (fun v D' => v = D' 703 1 ∧ TX (D' 704) v y ∧ 0 ≤ v ∧ v ≤ 700 ∧ (∀ c, (c < 703 ∨ 708 ≤ c) → D' c = D c)) := by
  refine CI.intro mc_Te_write (Nat.le_of_ble_eq_true rfl) rfl (s_Te_write_0 ka fun D1 e1 => ?_)
  have o1 : ∀ c, c ≠ 703 → D1 c = D c := fun c hc => by rw [e1, zw_off hc]
  have h1' : Fq D1 a y := h.cells fun c c1 c2 => o1 c (by omega)
  refine (writeNumber_ok (zs_Fr_top ka) (by omega) h1'.1 h1 (p := 0) (by omega) (by rw [e1, zw_eq])).mono fun D2 r2 => ?_
  obtain ⟨k1, a1, a2, a3, a4, a5⟩ := r2
  have o2 : ∀ c, (c < 703 ∨ 708 ≤ c) → D2 c = D c := fun c hc => by rw [a5.1 c (by omega) (by omega) (by omega) (by omega), o1 c (by omega)]
  have hb2 : Na D2 (a + 3) ((y.den : Nat) : Int) := h.2.of (o2 _ (by omega)) (o2 _ (by omega))
  refine s_Te_write_13 ka ((isOne_ok (zs_Fr_below ka) hb2).mono fun v D3 r3 => ?_)
  obtain ⟨rfl, rfl⟩ := r3
  refine s_Te_write_20 ka ⟨fun q => s_Te_write_37 (retI ⟨rfl, ⟨k1, a1, a4, Or.inl ⟨?_, by omega⟩⟩, by omega, by omega, o2⟩), fun q => ?_⟩
  · have : ((y.den : Nat) : Int) = 1 := Decidable.byContradiction fun z => q (if_neg z)
    omega
  · have d1 : y.den ≠ 1 := fun z => by rw [if_pos (by omega)] at q; omega
    refine (tpush_ok a3 (by omega) (x := 47) (by omega)).mono fun D4 r4 => s_Te_write_29 ka ?_
    obtain ⟨b1, b2, b3, b4⟩ := r4
    refine (writeNumber_ok (zs_Fr_below ka) (by omega) (hb2.of (b3 _ (by omega) (by omega)) (b3 _ (by omega) (by omega))) h2 (p := (k1 : Int) + 1) (by omega) (by rw [b1]; omega)).mono fun D5 r5 => s_Te_write_37 (retI ?_)
    obtain ⟨k2, c1, c2, c3, c4, c5⟩ := r5
    refine ⟨rfl, ⟨k1, a1, a4.of fun i hi => ?_, Or.inr ⟨d1, ?_, k2, c1, c4, by rw [c3]⟩⟩, by omega, by omega, fun c hc => ?_⟩
    · rw [c5.2.2 _ (by omega), b4.2.2 _ (by omega)]
    · rw [c5.2.2 _ (by omega)]
      rwa [Int.zero_add] at b2
    · rw [c5.1 c (by omega) (by omega) (by omega) (by omega), b3 c (by omega) (by omega), o2 c hc]
end TEXT2
