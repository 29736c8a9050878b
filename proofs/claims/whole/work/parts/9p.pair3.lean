/-! class and model, call by call: about, clear, job, level, convex, near, speed, plan, ahead -/
def abv (n : Nat) (r d w : Nat → Int) (lv : Nat) (rt ct : Nat → Int) (a b : Int) : Int :=
  if a = 0 then n else if a = 1 then lv else if 2 ≤ a ∧ a ≤ 4 ∧ 0 ≤ b ∧ b < n then (if a = 2 then r b.toNat else if a = 3 then d b.toNat else w b.toNat) else if 5 ≤ a ∧ a ≤ 6 ∧ 0 ≤ b ∧ b < lv then (if a = 5 then rt b.toNat else ct b.toNat) else -1
section PAIR3
variable {g : GG} {D D' : DD} {a b c e : Int} {n lv : Nat} {r d w rt ct : Nat → Int} {pl : Nat → Nat}
theorem abv_n (h : (a < 0 ∨ 6 < a) ∨ (2 ≤ a ∧ a ≤ 4 ∧ ¬ (0 ≤ b ∧ b < n)) ∨ (5 ≤ a ∧ a ≤ 6 ∧ ¬ (0 ≤ b ∧ b < lv))) : abv n r d w lv rt ct a b = -1 := by
  unfold abv
  rw [if_neg (by omega), if_neg (by omega), if_neg (by omega), if_neg (by omega)]
theorem abv_j {k : Nat} (h : k < n) (ha : 2 ≤ a ∧ a ≤ 4) : abv n r d w lv rt ct a k = if a = 2 then r k else if a = 3 then d k else w k := by
  unfold abv
  rw [if_neg (by omega), if_neg (by omega), if_pos (by omega), Int.toNat_natCast]
theorem abv_l {k : Nat} (h : k < lv) (ha : 5 ≤ a ∧ a ≤ 6) : abv n r d w lv rt ct a k = if a = 5 then rt k else ct k := by
  unfold abv
  rw [if_neg (by omega), if_neg (by omega), if_neg (by omega), if_pos (by omega), Int.toNat_natCast]
theorem mAbout_ok (i1 : IJL D n r d w pl lv rt ct) (h : INV D) : CI g M_Mo_about [vR 708, vI a, vI b] D (fun v' D2 => v' = abv n r d w lv rt ct a b ∧ INV D2) := by
  have hn := i1.1.1
  obtain ⟨h3, hj⟩ := i1.2.2.1
  obtain ⟨h7, hl⟩ := i1.2.2.2.2.2
  have lf := i1.2.2.2.1.1
  refine CI.intro mc_Mo_about (Nat.le_of_ble_eq_true rfl) rfl (s_Mo_about_0 fun D2 e2 => ?_)
  have l3 : D2 708 3 = n := by rw [e2, zw_ne (Or.inr (by omega))]; exact h3
  have l7 : D2 708 7 = lv := by rw [e2, zw_ne (Or.inr (by omega))]; exact h7
  have hi : INV D2 := by rw [e2]; exact h.w0
  have oj : ∀ c, c ≠ 708 → D2 c = D c := fun c hc => by rw [e2, zw_off hc]
  have lev : a ≠ 0 → a ≠ 1 → ¬ (2 ≤ a ∧ a ≤ 4 ∧ 0 ≤ b ∧ b < n) → Sg g M_Mo_about (rI (fun v' D2 => v' = abv n r d w lv rt ct a b ∧ INV D2)) 88 [vR 708, vI a, vI b] [] D2 := fun a0 a1 a2 => by
    refine s_Mo_about_88 (in_ok.mono fun y D3 r3 => ?_)
    obtain ⟨rfl, rfl⟩ := r3
    by_cases z : 5 ≤ a ∧ a ≤ 6
    · rw [show (if 5 ≤ a ∧ a ≤ 6 then (1 : Int) else 0) = 1 from if_pos z]
      refine s_Mo_about_95 ⟨fun q => by omega, fun _ => ?_⟩
      rw [l7]
      refine ⟨by unfold R32; omega, in_ok.mono fun y D4 r4 => ?_⟩
      obtain ⟨rfl, rfl⟩ := r4
      by_cases u : 0 ≤ b ∧ b ≤ (lv : Int) - 1
      · rw [show (if 0 ≤ b ∧ b ≤ (lv : Int) - 1 then (1 : Int) else 0) = 1 from if_pos u]
        obtain ⟨k, rfl⟩ : ∃ k : Nat, b = k := ⟨b.toNat, by omega⟩
        have hk := hl k (by omega)
        rw [abv_l (by omega) z]
        refine s_Mo_about_109 ⟨fun q => by omega, fun _ => ⟨fun q => ⟨by omega, retI ⟨?_, hi⟩⟩, fun q => ⟨by omega, retI ⟨?_, hi⟩⟩⟩⟩
        · rw [if_neg q, oj 715 (by omega)]; exact hk.2
        · rw [if_pos q, oj 714 (by omega)]; exact hk.1
      · rw [show (if 0 ≤ b ∧ b ≤ (lv : Int) - 1 then (1 : Int) else 0) = 0 from if_neg u]
        exact s_Mo_about_109 ⟨fun _ => retI ⟨(abv_n (by omega)).symm, hi⟩, fun q => absurd rfl q⟩
    · rw [show (if 5 ≤ a ∧ a ≤ 6 then (1 : Int) else 0) = 0 from if_neg z]
      exact s_Mo_about_95 ⟨fun _ => retI ⟨(abv_n (by omega)).symm, hi⟩, fun q => absurd rfl q⟩
  refine ⟨fun q => s_Mo_about_14 ⟨fun u => absurd q u, fun _ => retI ⟨?_, hi⟩⟩, fun a0 => ⟨fun a1 => in_ok.mono fun y D3 r3 => ?_, fun q => s_Mo_about_14 ⟨fun _ => retI ⟨?_, hi⟩, fun u => absurd u a0⟩⟩⟩
  · unfold abv; rw [l3, if_pos q]
  · obtain ⟨rfl, rfl⟩ := r3
    by_cases z : 2 ≤ a ∧ a ≤ 4
    · rw [show (if 2 ≤ a ∧ a ≤ 4 then (1 : Int) else 0) = 1 from if_pos z]
      refine s_Mo_about_36 ⟨fun q => by omega, fun _ => ?_⟩
      rw [l3]
      refine ⟨by unfold R32; omega, in_ok.mono fun y D4 r4 => ?_⟩
      obtain ⟨rfl, rfl⟩ := r4
      by_cases u : 0 ≤ b ∧ b ≤ (n : Int) - 1
      · rw [show (if 0 ≤ b ∧ b ≤ (n : Int) - 1 then (1 : Int) else 0) = 1 from if_pos u]
        obtain ⟨k, rfl⟩ : ∃ k : Nat, b = k := ⟨b.toNat, by omega⟩
        have hk := hj k (by omega)
        rw [abv_j (by omega) z]
        refine s_Mo_about_50 ⟨fun q => by omega, fun _ => ⟨fun q => ⟨fun q2 => ⟨by omega, retI ⟨?_, hi⟩⟩, fun q2 => ⟨by omega, retI ⟨?_, hi⟩⟩⟩, fun q => ⟨by omega, retI ⟨?_, hi⟩⟩⟩⟩
        · rw [if_neg q, if_neg q2, oj 713 (by omega)]; exact hk.2.2
        · rw [if_neg q, if_pos q2, oj 712 (by omega)]; exact hk.2.1
        · rw [if_pos q, oj 711 (by omega)]; exact hk.1
      · rw [show (if 0 ≤ b ∧ b ≤ (n : Int) - 1 then (1 : Int) else 0) = 0 from if_neg u]
        exact s_Mo_about_50 ⟨fun _ => lev a0 a1 (by omega), fun q => absurd rfl q⟩
    · rw [show (if 2 ≤ a ∧ a ≤ 4 then (1 : Int) else 0) = 0 from if_neg z]
      exact s_Mo_about_36 ⟨fun _ => lev a0 a1 (by omega), fun q => absurd rfl q⟩
  · unfold abv; rw [l7, if_neg a0, if_pos q]
theorem pr_about (h : INV D) : CI g M_Ke_about [vR 0, vI a, vI b] D (fun v D1 => CI g M_Mo_about [vR 708, vI a, vI b] D1 (fun v' D2 => v' = v ∧ INV D2)) := by
  obtain ⟨t0, n, r, d, w, pl, lv, rt, ct, i1, i2, i3, i4, i5⟩ := h.inc
  have hn := i1.1.1
  have jc := i1.2.1
  have lc := i1.2.2.2.2.1
  have lf := i1.2.2.2.1
  have go : ∀ v, v = abv n r d w lv rt ct a b → CI g M_Mo_about [vR 708, vI a, vI b] D (fun v' D2 => v' = v ∧ INV D2) := fun v hv => by
    rw [hv]; exact mAbout_ok i1 h
  have hj : ∀ (P : Int → Prop), (¬ (0 ≤ b ∧ b < n) → P 0) → ((0 ≤ b ∧ b < n) → P 1) → CI g M_Jo_has [vR 1, vI b] D (fun y D' => D' = D ∧ P y) := fun P p0 p1 => (joHas_ok jc).mono fun y D1 r1 => by
    obtain ⟨rfl, rfl⟩ := r1
    refine ⟨rfl, ?_⟩
    split
    · next q => exact p1 q
    · next q => exact p0 q
  have hl : ∀ (P : Int → Prop), (¬ (0 ≤ b ∧ b < lv) → P 0) → ((0 ≤ b ∧ b < lv) → P 1) → CI g M_Le_has [vR 6, vI b] D (fun y D' => D' = D ∧ P y) := fun P p0 p1 => (leHas_ok lc).mono fun y D1 r1 => by
    obtain ⟨rfl, rfl⟩ := r1
    refine ⟨rfl, ?_⟩
    split
    · next q => exact p1 q
    · next q => exact p0 q
  refine CI.intro mc_Ke_about (Nat.le_of_ble_eq_true rfl) rfl (s_Ke_about_0 ⟨⟨fun q => retI (go _ ?_), fun q => retI (go _ ?_), fun q => ?_, fun q => ?_, fun q => ?_, fun q => ?_, fun q => ?_⟩, fun q => retI (go _ (abv_n (Or.inl q)).symm)⟩)
  · unfold abv; rw [if_pos q]; exact jc.1
  · unfold abv; rw [if_neg (by omega), if_pos q]; exact lc.1
  · refine (hj (fun y => (y = 0 ∧ ¬ (0 ≤ b ∧ b < n)) ∨ (y = 1 ∧ 0 ≤ b ∧ b < n)) (fun z => Or.inl ⟨rfl, z⟩) (fun z => Or.inr ⟨rfl, z⟩)).mono fun y D1 r1 => ?_
    obtain ⟨rfl, r1⟩ := r1
    refine s_Ke_about_68 ⟨fun z => retI (go _ (abv_n (by omega)).symm), fun z => ⟨by omega, retI (go _ ?_)⟩⟩
    obtain ⟨k, rfl⟩ : ∃ k : Nat, b = k := ⟨b.toNat, by omega⟩
    rw [abv_j (by omega) (by omega), if_pos q]; exact (jc.2.1 k (by omega)).1
  · refine (hj (fun y => (y = 0 ∧ ¬ (0 ≤ b ∧ b < n)) ∨ (y = 1 ∧ 0 ≤ b ∧ b < n)) (fun z => Or.inl ⟨rfl, z⟩) (fun z => Or.inr ⟨rfl, z⟩)).mono fun y D1 r1 => ?_
    obtain ⟨rfl, r1⟩ := r1
    refine s_Ke_about_93 ⟨fun z => retI (go _ (abv_n (by omega)).symm), fun z => ⟨by omega, retI (go _ ?_)⟩⟩
    obtain ⟨k, rfl⟩ : ∃ k : Nat, b = k := ⟨b.toNat, by omega⟩
    rw [abv_j (by omega) (by omega), if_neg (by omega), if_pos q]; exact (jc.2.1 k (by omega)).2.1
  · refine (hj (fun y => (y = 0 ∧ ¬ (0 ≤ b ∧ b < n)) ∨ (y = 1 ∧ 0 ≤ b ∧ b < n)) (fun z => Or.inl ⟨rfl, z⟩) (fun z => Or.inr ⟨rfl, z⟩)).mono fun y D1 r1 => ?_
    obtain ⟨rfl, r1⟩ := r1
    refine s_Ke_about_118 ⟨fun z => retI (go _ (abv_n (by omega)).symm), fun z => ⟨by omega, retI (go _ ?_)⟩⟩
    obtain ⟨k, rfl⟩ : ∃ k : Nat, b = k := ⟨b.toNat, by omega⟩
    rw [abv_j (by omega) (by omega), if_neg (by omega), if_neg (by omega)]; exact (jc.2.1 k (by omega)).2.2
  · refine (hl (fun y => (y = 0 ∧ ¬ (0 ≤ b ∧ b < lv)) ∨ (y = 1 ∧ 0 ≤ b ∧ b < lv)) (fun z => Or.inl ⟨rfl, z⟩) (fun z => Or.inr ⟨rfl, z⟩)).mono fun y D1 r1 => ?_
    obtain ⟨rfl, r1⟩ := r1
    refine s_Ke_about_143 ⟨fun z => retI (go _ (abv_n (by omega)).symm), fun z => (rateOf_ok lf lc).mono fun y2 D2 r2 => ?_⟩
    obtain ⟨rfl, rfl⟩ := r2
    refine s_Ke_about_154 (retI (go _ ?_))
    obtain ⟨k, rfl⟩ : ∃ k : Nat, b = k := ⟨b.toNat, by omega⟩
    rw [abv_l (by omega) (by omega), if_pos q]; unfold lz; rw [if_pos (by omega), Int.toNat_natCast]
  · refine (hl (fun y => (y = 0 ∧ ¬ (0 ≤ b ∧ b < lv)) ∨ (y = 1 ∧ 0 ≤ b ∧ b < lv)) (fun z => Or.inl ⟨rfl, z⟩) (fun z => Or.inr ⟨rfl, z⟩)).mono fun y D1 r1 => ?_
    obtain ⟨rfl, r1⟩ := r1
    refine s_Ke_about_167 ⟨fun z => retI (go _ (abv_n (by omega)).symm), fun z => (costOf_ok lf lc).mono fun y2 D2 r2 => ?_⟩
    obtain ⟨rfl, rfl⟩ := r2
    refine s_Ke_about_178 (retI (go _ ?_))
    obtain ⟨k, rfl⟩ : ∃ k : Nat, b = k := ⟨b.toNat, by omega⟩
    rw [abv_l (by omega) (by omega), if_neg (by omega)]; unfold lz; rw [if_pos (by omega), Int.toNat_natCast]
end PAIR3
