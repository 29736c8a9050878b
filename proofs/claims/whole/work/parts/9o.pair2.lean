/-! class and model, call by call: character, levelOf, working, about, clear -/
section PAIR2
variable {g : GG} {D D' : DD} {a b c e : Int}
theorem pr_character (h : INV D) : CI g M_Ke_character [vR 0, vI a] D (fun v D1 => CI g M_Mo_character [vR 708, vI a] D1 (fun v' D2 => v' = v ∧ INV D2)) := by
  obtain ⟨t0, _⟩ := h.inc
  obtain ⟨len, t1, t2, t3, t4, t5⟩ := t0
  have te : CI g M_Te_at [vR 703, vI a] D (fun v D1 => D1 = D ∧ v = if 0 ≤ a ∧ a < len then D 704 a else -1) := by
    refine CI.intro mc_Te_at (Nat.le_of_ble_eq_true rfl) rfl (s_Te_at_0 ⟨fun q => retI ⟨rfl, (if_neg (by omega)).symm⟩, fun q => ⟨fun q2 => retI ⟨rfl, (if_neg (by omega)).symm⟩, fun q2 => ⟨by omega, retI ⟨rfl, (if_pos (by omega)).symm⟩⟩⟩⟩)
  refine CI.intro mc_Ke_character (Nat.le_of_ble_eq_true rfl) rfl (s_Ke_character_0 (te.mono fun v D1 r1 => s_Ke_character_8 (retI ?_)))
  obtain ⟨rfl, rfl⟩ := r1
  refine CI.intro mc_Mo_character (Nat.le_of_ble_eq_true rfl) rfl (s_Mo_character_0 fun D2 e2 => ?_)
  have l2 : D2 708 33 = len := by rw [e2, zw_ne (Or.inr (by omega))]; exact t2
  have hi : INV D2 := by rw [e2]; exact h.w0
  rw [l2]
  refine ⟨by unfold R32; omega, in_ok.mono fun y D3 r3 => ?_⟩
  obtain ⟨rfl, rfl⟩ := r3
  by_cases z : 0 ≤ a ∧ a < len
  · rw [show (if 0 ≤ a ∧ a ≤ len - 1 then (1 : Int) else 0) = 1 from if_pos (by omega), show (if 0 ≤ a ∧ a < len then D1 704 a else -1) = D1 704 a from if_pos z]
    refine s_Mo_character_16 ⟨fun q => by omega, fun _ => ⟨by omega, retI ⟨?_, hi⟩⟩⟩
    obtain ⟨k, rfl⟩ : ∃ k : Nat, a = k := ⟨a.toNat, by omega⟩
    rw [e2, zw_off (by omega)]
    exact (t5 k (by omega)).symm
  · rw [show (if 0 ≤ a ∧ a ≤ len - 1 then (1 : Int) else 0) = 0 from if_neg (by omega), show (if 0 ≤ a ∧ a < len then D1 704 a else -1) = -1 from if_neg z]
    exact s_Mo_character_16 ⟨fun q => retI ⟨rfl, hi⟩, fun q => absurd rfl q⟩
theorem pr_levelOf (h : INV D) : CI g M_Ke_levelOf [vR 0, vI a, vI b] D (fun v D1 => CI g M_Mo_levelOf [vR 708, vI a, vI b] D1 (fun v' D2 => v' = v ∧ INV D2)) := by
  obtain ⟨t0, n, r, d, w, pl, lv, rt, ct, i1, i2, i3, i4, i5⟩ := h.inc
  have hn := i1.1.1
  have h3 : D 708 3 = n := i1.2.2.1.1
  -- the model, none
  have no : ∀ (q : D 708 12 = 0 ∨ ¬ (0 ≤ a ∧ a < n) ∨ ¬ (b = 0 ∨ b = 1)), CI g M_Mo_levelOf [vR 708, vI a, vI b] D (fun v' D2 => v' = -2 ∧ INV D2) := fun q => by
    refine CI.intro mc_Mo_levelOf (Nat.le_of_ble_eq_true rfl) rfl (s_Mo_levelOf_0 fun D2 e2 => ?_)
    have l2 : D2 708 3 = n := by rw [e2, zw_ne (Or.inr (by omega))]; exact h3
    have l3 : D2 708 12 = D 708 12 := by rw [e2, zw_ne (Or.inr (by omega))]
    have hi : INV D2 := by rw [e2]; exact h.w0
    rw [l2, l3]
    refine ⟨fun _ => retI ⟨rfl, hi⟩, fun q1 => ⟨by unfold R32; omega, in_ok.mono fun y D3 r3 => ?_⟩⟩
    obtain ⟨rfl, rfl⟩ := r3
    refine s_Mo_levelOf_23 ⟨fun _ => retI ⟨rfl, hi⟩, fun q2 => in_ok.mono fun y D4 r4 => ?_⟩
    obtain ⟨rfl, rfl⟩ := r4
    have y1 : 0 ≤ a ∧ a ≤ (n : Int) - 1 := Decidable.byContradiction fun z => q2 (if_neg z)
    rw [show (if 0 ≤ b ∧ b ≤ 1 then (1 : Int) else 0) = 0 from if_neg (by omega)]
    exact s_Mo_levelOf_32 ⟨fun q => absurd rfl q, fun _ => retI ⟨rfl, hi⟩⟩
  refine CI.intro mc_Ke_levelOf (Nat.le_of_ble_eq_true rfl) rfl (s_Ke_levelOf_0 ⟨fun q => ?_, fun q => (joHas_ok i1.2.1).mono fun y D1 r1 => ?_⟩)
  · exact retI (no (Or.inl (by rcases i4 with i4 | i4; exact i4.2; omega)))
  · obtain ⟨rfl, rfl⟩ := r1
    obtain ⟨m12, sp⟩ := spb i4 q
    refine s_Ke_levelOf_18 ⟨fun q1 => retI (no (Or.inr (Or.inl fun z => ?_))), fun q1 => ?_⟩
    · rw [if_pos z] at q1; omega
    · have y1 : 0 ≤ a ∧ a < (n : Int) := Decidable.byContradiction fun z => q1 (if_neg z)
      obtain ⟨k, rfl⟩ : ∃ k : Nat, a = k := ⟨a.toNat, by omega⟩
      have s := sp.1 k (by omega)
      have go : ∀ v : Int, (b = 0 ∧ v = D1 574 k) ∨ (b = 1 ∧ v = D1 575 k) → CI g M_Mo_levelOf [vR 708, vI (k : Int), vI b] D1 (fun v' D2 => v' = v ∧ INV D2) := fun v hv => by
        refine CI.intro mc_Mo_levelOf (Nat.le_of_ble_eq_true rfl) rfl (s_Mo_levelOf_0 fun D2 e2 => ?_)
        have l2 : D2 708 3 = n := by rw [e2, zw_ne (Or.inr (by omega))]; exact h3
        have l3 : D2 708 12 = 1 := by rw [e2, zw_ne (Or.inr (by omega))]; exact m12
        have hi : INV D2 := by rw [e2]; exact h.w0
        rw [l2, l3]
        refine ⟨fun q => by omega, fun _ => ⟨by unfold R32; omega, in_ok.mono fun y D3 r3 => ?_⟩⟩
        obtain ⟨rfl, rfl⟩ := r3
        refine s_Mo_levelOf_23 ⟨fun q => by rw [if_pos (by omega)] at q; omega, fun q2 => in_ok.mono fun y D4 r4 => ?_⟩
        obtain ⟨rfl, rfl⟩ := r4
        refine s_Mo_levelOf_32 ⟨fun _ => ⟨fun q => ⟨by omega, retI ⟨?_, hi⟩⟩, fun q => ⟨by omega, retI ⟨?_, hi⟩⟩⟩, fun q => by rw [if_pos (by omega)] at q; omega⟩
        · rw [e2, zw_off (by omega), ← s.2.1]; omega
        · rw [e2, zw_off (by omega), ← s.1]; omega
      refine ⟨fun q2 => s_Ke_levelOf_33 ⟨fun q => by omega, fun _ => ⟨by omega, retI (go _ (Or.inl ⟨q2, rfl⟩))⟩⟩, fun q2 => ⟨fun q3 => s_Ke_levelOf_33 ⟨fun _ => ⟨by omega, retI (go _ (Or.inr ⟨q3, rfl⟩))⟩, fun q => by omega⟩, fun q3 => retI (no (Or.inr (Or.inr (by omega))))⟩⟩
theorem pr_working (h : INV D) : CI g M_Ke_working [vR 0, vI a, vI b] D (fun v D1 => CI g M_Mo_working [vR 708, vI a, vI b] D1 (fun v' D2 => v' = v ∧ INV D2)) := by
  obtain ⟨t0, n, r, d, w, pl, lv, rt, ct, i1, i2, i3, i4, i5⟩ := h.inc
  have go : ∀ v : Int, ((¬ (0 ≤ b ∧ b < 200) ∨ ¬ (a = 0 ∨ a = 1) ∨ (a = 0 ∧ D 708 10 = 0) ∨ (a = 1 ∧ D 708 11 = 0)) → v = -1) → (0 ≤ b → b < 200 → a = 0 → D 708 10 ≠ 0 → v = D 727 b) → (0 ≤ b → b < 200 → a = 1 → D 708 11 ≠ 0 → v = D 730 b) → CI g M_Mo_working [vR 708, vI a, vI b] D (fun v' D2 => v' = v ∧ INV D2) := fun v v1 v2 v3 => by
    refine CI.intro mc_Mo_working (Nat.le_of_ble_eq_true rfl) rfl (s_Mo_working_0 fun D2 e2 => in_ok.mono fun y D3 r3 => ?_)
    obtain ⟨rfl, rfl⟩ := r3
    have hi : INV D3 := by rw [e2]; exact h.w0
    have l1 : D3 708 10 = D 708 10 := by rw [e2, zw_ne (Or.inr (by omega))]
    have l2 : D3 708 11 = D 708 11 := by rw [e2, zw_ne (Or.inr (by omega))]
    have l3 : D3 727 = D 727 := by rw [e2, zw_off (by omega)]
    have l4 : D3 730 = D 730 := by rw [e2, zw_off (by omega)]
    refine s_Mo_working_13 ⟨fun q => ?_, fun q => retI ⟨(v1 (Or.inl fun z => ?_)).symm, hi⟩⟩
    · have hb : 0 ≤ b ∧ b ≤ 199 := Decidable.byContradiction fun z => q (if_neg z)
      rw [l1, l3]
      have more : (a ≠ 0 ∨ D 708 10 = 0) → Sg g M_Mo_working (rI (fun v' D2 => v' = v ∧ INV D2)) 38 [vR 708, vI a, vI b] [] D3 := fun u => by
        refine s_Mo_working_38 ⟨fun q1 => retI ⟨(v1 (by omega)).symm, hi⟩, fun q1 => ?_⟩
        rw [l2, l4]
        exact ⟨fun q2 => retI ⟨(v1 (by omega)).symm, hi⟩, fun q2 => ⟨by omega, retI ⟨(v3 hb.1 (by omega) q1 q2).symm, hi⟩⟩⟩
      exact ⟨fun q1 => more (Or.inl q1), fun q1 => ⟨fun q2 => more (Or.inr q2), fun q2 => ⟨by omega, retI ⟨(v2 hb.1 (by omega) q1 q2).symm, hi⟩⟩⟩⟩
    · rw [if_pos (by omega)] at q; omega
  have pl0 : D 9 0 = 0 → D 708 10 = 0 := fun q => by rcases i2 with i | i; exact i.2; omega
  have ah0 : D 200 0 = 0 → D 708 11 = 0 := fun q => by rcases i3 with i | i; exact i.2; omega
  have no : (¬ (0 ≤ b ∧ b < 200) ∨ ¬ (a = 0 ∨ a = 1) ∨ (a = 0 ∧ D 708 10 = 0) ∨ (a = 1 ∧ D 708 11 = 0)) → CI g M_Mo_working [vR 708, vI a, vI b] D (fun v' D2 => v' = -1 ∧ INV D2) := fun q => go (-1) (fun _ => rfl) (fun _ _ _ z => by omega) (fun _ _ _ z => by omega)
  refine CI.intro mc_Ke_working (Nat.le_of_ble_eq_true rfl) rfl (s_Ke_working_0 ⟨fun q => retI (no (by omega)), fun q1 => ⟨fun q => retI (no (by omega)), fun q2 => ⟨fun q3 => s_Ke_working_22 ⟨fun q => absurd q3 q, fun _ => s_Ke_working_37b ⟨fun q => retI (no (Or.inr (Or.inr (Or.inl ⟨q3, pl0 q⟩)))), fun q => ⟨by omega, retI (go _ (fun z => ?_) (fun _ _ _ _ => ?_) (fun _ _ z _ => by omega))⟩⟩⟩, fun q3 => ⟨fun q4 => s_Ke_working_22 ⟨fun _ => s_Ke_working_37 ⟨fun q => retI (no (Or.inr (Or.inr (Or.inr ⟨q4, ah0 q⟩)))), fun q => ⟨by omega, retI (go _ (fun z => ?_) (fun _ _ z _ => by omega) (fun _ _ _ _ => ?_))⟩⟩, fun q => by omega⟩, fun q4 => retI (no (by omega))⟩⟩⟩⟩)
  · have := (i2.both i1.1 q).1
    omega
  · obtain ⟨_, x, L, _, _, _, _, wk, _⟩ := i2.both i1.1 q
    obtain ⟨k, rfl⟩ : ∃ k : Nat, b = k := ⟨b.toNat, by omega⟩
    exact wk k (by omega)
  · have := (i3.both i1.1 q).1
    omega
  · obtain ⟨_, x, _, _, _, wk, _⟩ := i3.both i1.1 q
    obtain ⟨k, rfl⟩ : ∃ k : Nat, b = k := ⟨b.toNat, by omega⟩
    exact wk k (by omega)
end PAIR2
