/-! which fraction is meant: jobs and costs -/
section FRAC2
variable {g : GG} {D : DD} {n : Nat} {r d w : Nat → Int} {pl : Nat → Nat} {i : Int}
theorem zk_slow {k : Nat} (hk : k < 12) : zk (583 + 10 * k) = (0, 4, 0) := by
  have := ze_5 (a := 576) (i := k) (by decide +kernel) hk
  rwa [show 576 + 7 + 10 * k = 583 + 10 * k by omega] at this
theorem zk_fast {k : Nat} (hk : k < 12) : zk (588 + 10 * k) = (0, 4, 0) := by
  have := ze_6 (a := 577) (i := k) (by decide +kernel) hk
  rwa [show 577 + 11 + 10 * k = 588 + 10 * k by omega] at this
theorem rateOf_pl {k : Nat} (hk : k < 12) (h : 0 ≤ D 461 k ∧ D 461 k < D 457 0 ∧ D 461 k < 12) : CN g M_Pl_rateOf [vR 457, vI k] D (fun o D' => o = some (470 + 5 * (D 461 k).toNat) ∧ D' = D) := by
  refine CN.intro mc_Pl_rateOf (Nat.le_of_ble_eq_true rfl) rfl (s_Pl_rateOf_0 ((groupOf_ok hk).mono fun y D2 r2 => ?_))
  obtain ⟨rfl, rfl⟩ := r2
  refine s_Pl_rateOf_5 ((hasGroup_ok (G := (D2 457 0).toNat) (by omega)).mono fun y D3 r3 => ?_)
  obtain ⟨rfl, rfl⟩ := r3
  rw [if_pos (by omega)]
  exact s_Pl_rateOf_11 ⟨fun q => by omega, fun _ => ⟨by omega, retNS ⟨rfl, rfl⟩⟩⟩
theorem spb (h : ISp D n) (h1 : ¬ D 573 0 = 0) : D 708 12 = 1 ∧ SPL D n := by
  rcases h with h | h
  · exact absurd h.1 h1
  · exact h.2
theorem frac2 (f : JF n r d w pl) (h0 : JC D n r d w pl) (h3 : D 708 3 = n) (ip : IPl D n r d w pl) : FPR g D 2 i := by
  have hn := f.1
  by_cases z : D 9 0 = 0
  · have m10 : D 708 10 = 0 := by
      rcases ip with h | h
      · exact h.2
      · omega
    refine Or.inl ⟨CN.intro mc_Ke_fractionOf (Nat.le_of_ble_eq_true rfl) rfl (s_Ke_fractionOf_0 ⟨⟨fun q => by omega, fun q => by omega, fun _ => ⟨fun _ => retN0 ⟨rfl, rfl⟩, fun q => absurd z q⟩, fun q => by omega, fun q => by omega, fun q => by omega, fun q => by omega, fun q => by omega, fun q => by omega, fun q => by omega⟩, fun q => by omega⟩), mf_intro hn h3 fun D1 m y _ => s_Mo_fraction_11 ⟨⟨fun q => by omega, fun q => by omega, fun _ => ⟨fun _ => retI ⟨rfl, rfl⟩, fun q => ?_⟩, fun q => by omega, fun q => by omega, fun q => by omega, fun q => by omega, fun q => by omega, fun q => by omega, fun q => by omega⟩, fun q => by omega⟩⟩
    rw [m.2 10 (by omega)] at q; exact absurd m10 q
  by_cases u : 0 ≤ i ∧ i < n
  · obtain ⟨k, rfl⟩ : ∃ k : Nat, i = k := ⟨i.toNat, by omega⟩
    have hk : k < n := by omega
    obtain ⟨m10, x, L, sz, _, _, en, _⟩ := ip.both f z
    obtain ⟨y, y1, y2, y3⟩ := en k hk
    refine Or.inr ⟨140 + 5 * k, 48 + (k : Int), y, zk_done (a := 9) rfl (by omega), by omega, y1, y2, by omega, y3, CN.intro mc_Ke_fractionOf (Nat.le_of_ble_eq_true rfl) rfl (s_Ke_fractionOf_0 ⟨⟨fun q => by omega, fun q => by omega, fun _ => ⟨fun q => absurd q z, fun _ => (joHas_ok h0).mono fun y D2 r2 => ?_⟩, fun q => by omega, fun q => by omega, fun q => by omega, fun q => by omega, fun q => by omega, fun q => by omega, fun q => by omega⟩, fun q => by omega⟩), mf_intro hn h3 fun D1 m y hy => s_Mo_fraction_11 ⟨⟨fun q => by omega, fun q => by omega, fun _ => ⟨fun q => ?_, fun q => ⟨fun q => ?_, fun _ => ⟨by unfold R32; omega, retI ⟨rfl, rfl⟩⟩⟩⟩, fun q => by omega, fun q => by omega, fun q => by omega, fun q => by omega, fun q => by omega, fun q => by omega, fun q => by omega⟩, fun q => by omega⟩⟩
    · obtain ⟨rfl, rfl⟩ := r2
      rw [if_pos u]
      exact s_Ke_fractionOf_124 ⟨fun q => by omega, fun _ => ⟨by omega, retNS ⟨by rw [Int.toNat_natCast], rfl⟩⟩⟩
    · rw [m.2 10 (by omega), m10] at q; omega
    · rw [hy, if_pos u] at q; omega
  · have m10 : D 708 10 = 1 := by
      rcases ip with h | h
      · exact absurd h.1 z
      · exact h.2.1
    refine Or.inl ⟨CN.intro mc_Ke_fractionOf (Nat.le_of_ble_eq_true rfl) rfl (s_Ke_fractionOf_0 ⟨⟨fun q => by omega, fun q => by omega, fun _ => ⟨fun q => absurd q z, fun _ => (joHas_ok h0).mono fun y D2 r2 => ?_⟩, fun q => by omega, fun q => by omega, fun q => by omega, fun q => by omega, fun q => by omega, fun q => by omega, fun q => by omega⟩, fun q => by omega⟩), mf_intro hn h3 fun D1 m y hy => s_Mo_fraction_11 ⟨⟨fun q => by omega, fun q => by omega, fun _ => ⟨fun q => ?_, fun q => ⟨fun q => retI ⟨rfl, rfl⟩, fun q => ?_⟩⟩, fun q => by omega, fun q => by omega, fun q => by omega, fun q => by omega, fun q => by omega, fun q => by omega, fun q => by omega⟩, fun q => by omega⟩⟩
    · obtain ⟨rfl, rfl⟩ := r2
      rw [if_neg u]
      exact s_Ke_fractionOf_124 ⟨fun _ => retN0 ⟨rfl, rfl⟩, fun q => absurd rfl q⟩
    · rw [m.2 10 (by omega), m10] at q; omega
    · rw [hy, if_neg u] at q; exact absurd rfl q
theorem frac3 (f : JF n r d w pl) (h0 : JC D n r d w pl) (h3 : D 708 3 = n) (ip : IAh D n r d w pl) : FPR g D 3 i := by
  have hn := f.1
  by_cases z : D 200 0 = 0
  · have m10 : D 708 11 = 0 := by
      rcases ip with h | h
      · exact h.2
      · omega
    refine Or.inl ⟨CN.intro mc_Ke_fractionOf (Nat.le_of_ble_eq_true rfl) rfl (s_Ke_fractionOf_0 ⟨⟨fun q => by omega, fun q => by omega, fun q => by omega, fun _ => ⟨fun _ => retN0 ⟨rfl, rfl⟩, fun q => absurd z q⟩, fun q => by omega, fun q => by omega, fun q => by omega, fun q => by omega, fun q => by omega, fun q => by omega⟩, fun q => by omega⟩), mf_intro hn h3 fun D1 m y _ => s_Mo_fraction_11 ⟨⟨fun q => by omega, fun q => by omega, fun q => by omega, fun _ => ⟨fun _ => retI ⟨rfl, rfl⟩, fun q => ?_⟩, fun q => by omega, fun q => by omega, fun q => by omega, fun q => by omega, fun q => by omega, fun q => by omega⟩, fun q => by omega⟩⟩
    rw [m.2 11 (by omega)] at q; exact absurd m10 q
  by_cases u : 0 ≤ i ∧ i < n
  · obtain ⟨k, rfl⟩ : ∃ k : Nat, i = k := ⟨i.toNat, by omega⟩
    have hk : k < n := by omega
    obtain ⟨m10, x, _, _, en, _⟩ := ip.both f z
    obtain ⟨y, y1, y2, y3⟩ := en k hk
    refine Or.inr ⟨331 + 5 * k, 60 + (k : Int), y, zk_done (a := 200) rfl (by omega), by omega, y1, y2, by omega, y3, CN.intro mc_Ke_fractionOf (Nat.le_of_ble_eq_true rfl) rfl (s_Ke_fractionOf_0 ⟨⟨fun q => by omega, fun q => by omega, fun q => by omega, fun _ => ⟨fun q => absurd q z, fun _ => (joHas_ok h0).mono fun y D2 r2 => ?_⟩, fun q => by omega, fun q => by omega, fun q => by omega, fun q => by omega, fun q => by omega, fun q => by omega⟩, fun q => by omega⟩), mf_intro hn h3 fun D1 m y hy => s_Mo_fraction_11 ⟨⟨fun q => by omega, fun q => by omega, fun q => by omega, fun _ => ⟨fun q => ?_, fun q => ⟨fun q => ?_, fun _ => ⟨by unfold R32; omega, retI ⟨rfl, rfl⟩⟩⟩⟩, fun q => by omega, fun q => by omega, fun q => by omega, fun q => by omega, fun q => by omega, fun q => by omega⟩, fun q => by omega⟩⟩
    · obtain ⟨rfl, rfl⟩ := r2
      rw [if_pos u]
      exact s_Ke_fractionOf_159 ⟨fun q => by omega, fun _ => ⟨by omega, retNS ⟨by rw [Int.toNat_natCast], rfl⟩⟩⟩
    · rw [m.2 11 (by omega), m10] at q; omega
    · rw [hy, if_pos u] at q; omega
  · have m10 : D 708 11 = 1 := by
      rcases ip with h | h
      · exact absurd h.1 z
      · exact h.2.1
    refine Or.inl ⟨CN.intro mc_Ke_fractionOf (Nat.le_of_ble_eq_true rfl) rfl (s_Ke_fractionOf_0 ⟨⟨fun q => by omega, fun q => by omega, fun q => by omega, fun _ => ⟨fun q => absurd q z, fun _ => (joHas_ok h0).mono fun y D2 r2 => ?_⟩, fun q => by omega, fun q => by omega, fun q => by omega, fun q => by omega, fun q => by omega, fun q => by omega⟩, fun q => by omega⟩), mf_intro hn h3 fun D1 m y hy => s_Mo_fraction_11 ⟨⟨fun q => by omega, fun q => by omega, fun q => by omega, fun _ => ⟨fun q => ?_, fun q => ⟨fun q => retI ⟨rfl, rfl⟩, fun q => ?_⟩⟩, fun q => by omega, fun q => by omega, fun q => by omega, fun q => by omega, fun q => by omega, fun q => by omega⟩, fun q => by omega⟩⟩
    · obtain ⟨rfl, rfl⟩ := r2
      rw [if_neg u]
      exact s_Ke_fractionOf_159 ⟨fun _ => retN0 ⟨rfl, rfl⟩, fun q => absurd rfl q⟩
    · rw [m.2 11 (by omega), m10] at q; omega
    · rw [hy, if_neg u] at q; exact absurd rfl q
theorem frac4 (f : JF n r d w pl) (h0 : JC D n r d w pl) (h3 : D 708 3 = n) (ip : IPl D n r d w pl) : FPR g D 4 i := by
  have hn := f.1
  by_cases z : D 9 0 = 0
  · have m10 : D 708 10 = 0 := by
      rcases ip with h | h
      · exact h.2
      · omega
    refine Or.inl ⟨CN.intro mc_Ke_fractionOf (Nat.le_of_ble_eq_true rfl) rfl (s_Ke_fractionOf_0 ⟨⟨fun q => by omega, fun q => by omega, fun q => by omega, fun q => by omega, fun _ => ⟨fun _ => retN0 ⟨rfl, rfl⟩, fun q => absurd z q⟩, fun q => by omega, fun q => by omega, fun q => by omega, fun q => by omega, fun q => by omega⟩, fun q => by omega⟩), mf_intro hn h3 fun D1 m y _ => s_Mo_fraction_11 ⟨⟨fun q => by omega, fun q => by omega, fun q => by omega, fun q => by omega, fun _ => ⟨fun _ => retI ⟨rfl, rfl⟩, fun q => ?_⟩, fun q => by omega, fun q => by omega, fun q => by omega, fun q => by omega, fun q => by omega⟩, fun q => by omega⟩⟩
    rw [m.2 10 (by omega)] at q; exact absurd m10 q
  by_cases u : 0 ≤ i ∧ i < n
  · obtain ⟨k, rfl⟩ : ∃ k : Nat, i = k := ⟨i.toNat, by omega⟩
    have hk : k < n := by omega
    obtain ⟨m10, x, L, sz, ⟨G, G1, G2, _⟩, _, _, _, _, en⟩ := ip.both f z
    obtain ⟨j1, j2, y, y1, y2, y3, _⟩ := en k hk
    refine Or.inr ⟨470 + 5 * (D 461 k).toNat, 72 + (k : Int), y, zk_grate (by omega), by omega, y1, y2, by omega, y3, CN.intro mc_Ke_fractionOf (Nat.le_of_ble_eq_true rfl) rfl (s_Ke_fractionOf_0 ⟨⟨fun q => by omega, fun q => by omega, fun q => by omega, fun q => by omega, fun _ => ⟨fun q => absurd q z, fun _ => (joHas_ok h0).mono fun y D2 r2 => ?_⟩, fun q => by omega, fun q => by omega, fun q => by omega, fun q => by omega, fun q => by omega⟩, fun q => by omega⟩), mf_intro hn h3 fun D1 m y hy => s_Mo_fraction_11 ⟨⟨fun q => by omega, fun q => by omega, fun q => by omega, fun q => by omega, fun _ => ⟨fun q => ?_, fun q => ⟨fun q => ?_, fun _ => ⟨by unfold R32; omega, retI ⟨rfl, rfl⟩⟩⟩⟩, fun q => by omega, fun q => by omega, fun q => by omega, fun q => by omega, fun q => by omega⟩, fun q => by omega⟩⟩
    · obtain ⟨rfl, rfl⟩ := r2
      rw [if_pos u]
      refine s_Ke_fractionOf_194 ⟨fun q => by omega, fun _ => (rateOf_pl (by omega) ⟨j1, j2, by omega⟩).mono fun o D3 r3 => ?_⟩
      obtain ⟨rfl, rfl⟩ := r3
      exact s_Ke_fractionOf_205 (zk_grate (by omega)) (retNS ⟨rfl, rfl⟩)
    · rw [m.2 10 (by omega), m10] at q; omega
    · rw [hy, if_pos u] at q; omega
  · have m10 : D 708 10 = 1 := by
      rcases ip with h | h
      · exact absurd h.1 z
      · exact h.2.1
    refine Or.inl ⟨CN.intro mc_Ke_fractionOf (Nat.le_of_ble_eq_true rfl) rfl (s_Ke_fractionOf_0 ⟨⟨fun q => by omega, fun q => by omega, fun q => by omega, fun q => by omega, fun _ => ⟨fun q => absurd q z, fun _ => (joHas_ok h0).mono fun y D2 r2 => ?_⟩, fun q => by omega, fun q => by omega, fun q => by omega, fun q => by omega, fun q => by omega⟩, fun q => by omega⟩), mf_intro hn h3 fun D1 m y hy => s_Mo_fraction_11 ⟨⟨fun q => by omega, fun q => by omega, fun q => by omega, fun q => by omega, fun _ => ⟨fun q => ?_, fun q => ⟨fun q => retI ⟨rfl, rfl⟩, fun q => ?_⟩⟩, fun q => by omega, fun q => by omega, fun q => by omega, fun q => by omega, fun q => by omega⟩, fun q => by omega⟩⟩
    · obtain ⟨rfl, rfl⟩ := r2
      rw [if_neg u]
      exact s_Ke_fractionOf_194 ⟨fun _ => retN0 ⟨rfl, rfl⟩, fun q => absurd rfl q⟩
    · rw [m.2 10 (by omega), m10] at q; omega
    · rw [hy, if_neg u] at q; exact absurd rfl q
theorem frac5 (f : JF n r d w pl) (h0 : JC D n r d w pl) (h3 : D 708 3 = n) (ip : ISp D n) : FPR g D 5 i := by
  have hn := f.1
  by_cases z : D 573 0 = 0
  · have m10 : D 708 12 = 0 := by
      rcases ip with h | h
      · exact h.2
      · omega
    refine Or.inl ⟨CN.intro mc_Ke_fractionOf (Nat.le_of_ble_eq_true rfl) rfl (s_Ke_fractionOf_0 ⟨⟨fun q => by omega, fun q => by omega, fun q => by omega, fun q => by omega, fun q => by omega, fun _ => ⟨fun _ => retN0 ⟨rfl, rfl⟩, fun q => absurd z q⟩, fun q => by omega, fun q => by omega, fun q => by omega, fun q => by omega⟩, fun q => by omega⟩), mf_intro hn h3 fun D1 m y _ => s_Mo_fraction_11 ⟨⟨fun q => by omega, fun q => by omega, fun q => by omega, fun q => by omega, fun q => by omega, fun _ => ⟨fun _ => retI ⟨rfl, rfl⟩, fun q => ?_⟩, fun q => by omega, fun q => by omega, fun q => by omega, fun q => by omega⟩, fun q => by omega⟩⟩
    rw [m.2 12 (by omega)] at q; exact absurd m10 q
  by_cases u : 0 ≤ i ∧ i < n
  · obtain ⟨k, rfl⟩ : ∃ k : Nat, i = k := ⟨i.toNat, by omega⟩
    have hk : k < n := by omega
    obtain ⟨m10, sp⟩ := spb ip z
    obtain ⟨_, _, ⟨y, y1, y2, y3⟩, _⟩ := sp.1 k hk
    refine Or.inr ⟨583 + 10 * k, 84 + (k : Int), y, zk_slow (by omega), by omega, y1, y2, by omega, y3, CN.intro mc_Ke_fractionOf (Nat.le_of_ble_eq_true rfl) rfl (s_Ke_fractionOf_0 ⟨⟨fun q => by omega, fun q => by omega, fun q => by omega, fun q => by omega, fun q => by omega, fun _ => ⟨fun q => absurd q z, fun _ => (joHas_ok h0).mono fun y D2 r2 => ?_⟩, fun q => by omega, fun q => by omega, fun q => by omega, fun q => by omega⟩, fun q => by omega⟩), mf_intro hn h3 fun D1 m y hy => s_Mo_fraction_11 ⟨⟨fun q => by omega, fun q => by omega, fun q => by omega, fun q => by omega, fun q => by omega, fun _ => ⟨fun q => ?_, fun q => ⟨fun q => ?_, fun _ => ⟨by unfold R32; omega, retI ⟨rfl, rfl⟩⟩⟩⟩, fun q => by omega, fun q => by omega, fun q => by omega, fun q => by omega⟩, fun q => by omega⟩⟩
    · obtain ⟨rfl, rfl⟩ := r2
      rw [if_pos u]
      exact s_Ke_fractionOf_228 ⟨fun q => by omega, fun _ => ⟨by omega, retNS ⟨by rw [Int.toNat_natCast], rfl⟩⟩⟩
    · rw [m.2 12 (by omega), m10] at q; omega
    · rw [hy, if_pos u] at q; omega
  · have m10 : D 708 12 = 1 := by
      rcases ip with h | h
      · exact absurd h.1 z
      · exact h.2.1
    refine Or.inl ⟨CN.intro mc_Ke_fractionOf (Nat.le_of_ble_eq_true rfl) rfl (s_Ke_fractionOf_0 ⟨⟨fun q => by omega, fun q => by omega, fun q => by omega, fun q => by omega, fun q => by omega, fun _ => ⟨fun q => absurd q z, fun _ => (joHas_ok h0).mono fun y D2 r2 => ?_⟩, fun q => by omega, fun q => by omega, fun q => by omega, fun q => by omega⟩, fun q => by omega⟩), mf_intro hn h3 fun D1 m y hy => s_Mo_fraction_11 ⟨⟨fun q => by omega, fun q => by omega, fun q => by omega, fun q => by omega, fun q => by omega, fun _ => ⟨fun q => ?_, fun q => ⟨fun q => retI ⟨rfl, rfl⟩, fun q => ?_⟩⟩, fun q => by omega, fun q => by omega, fun q => by omega, fun q => by omega⟩, fun q => by omega⟩⟩
    · obtain ⟨rfl, rfl⟩ := r2
      rw [if_neg u]
      exact s_Ke_fractionOf_228 ⟨fun _ => retN0 ⟨rfl, rfl⟩, fun q => absurd rfl q⟩
    · rw [m.2 12 (by omega), m10] at q; omega
    · rw [hy, if_neg u] at q; exact absurd rfl q
theorem frac6 (f : JF n r d w pl) (h0 : JC D n r d w pl) (h3 : D 708 3 = n) (ip : ISp D n) : FPR g D 6 i := by
  have hn := f.1
  by_cases z : D 573 0 = 0
  · have m10 : D 708 12 = 0 := by
      rcases ip with h | h
      · exact h.2
      · omega
    refine Or.inl ⟨CN.intro mc_Ke_fractionOf (Nat.le_of_ble_eq_true rfl) rfl (s_Ke_fractionOf_0 ⟨⟨fun q => by omega, fun q => by omega, fun q => by omega, fun q => by omega, fun q => by omega, fun q => by omega, fun _ => ⟨fun _ => retN0 ⟨rfl, rfl⟩, fun q => absurd z q⟩, fun q => by omega, fun q => by omega, fun q => by omega⟩, fun q => by omega⟩), mf_intro hn h3 fun D1 m y _ => s_Mo_fraction_11 ⟨⟨fun q => by omega, fun q => by omega, fun q => by omega, fun q => by omega, fun q => by omega, fun q => by omega, fun _ => ⟨fun _ => retI ⟨rfl, rfl⟩, fun q => ?_⟩, fun q => by omega, fun q => by omega, fun q => by omega⟩, fun q => by omega⟩⟩
    rw [m.2 12 (by omega)] at q; exact absurd m10 q
  by_cases u : 0 ≤ i ∧ i < n
  · obtain ⟨k, rfl⟩ : ∃ k : Nat, i = k := ⟨i.toNat, by omega⟩
    have hk : k < n := by omega
    obtain ⟨m10, sp⟩ := spb ip z
    obtain ⟨_, _, _, y, y1, y2, y3⟩ := sp.1 k hk
    refine Or.inr ⟨588 + 10 * k, 96 + (k : Int), y, zk_fast (by omega), by omega, y1, y2, by omega, y3, CN.intro mc_Ke_fractionOf (Nat.le_of_ble_eq_true rfl) rfl (s_Ke_fractionOf_0 ⟨⟨fun q => by omega, fun q => by omega, fun q => by omega, fun q => by omega, fun q => by omega, fun q => by omega, fun _ => ⟨fun q => absurd q z, fun _ => (joHas_ok h0).mono fun y D2 r2 => ?_⟩, fun q => by omega, fun q => by omega, fun q => by omega⟩, fun q => by omega⟩), mf_intro hn h3 fun D1 m y hy => s_Mo_fraction_11 ⟨⟨fun q => by omega, fun q => by omega, fun q => by omega, fun q => by omega, fun q => by omega, fun q => by omega, fun _ => ⟨fun q => ?_, fun q => ⟨fun q => ?_, fun _ => ⟨by unfold R32; omega, retI ⟨rfl, rfl⟩⟩⟩⟩, fun q => by omega, fun q => by omega, fun q => by omega⟩, fun q => by omega⟩⟩
    · obtain ⟨rfl, rfl⟩ := r2
      rw [if_pos u]
      exact s_Ke_fractionOf_263 ⟨fun q => by omega, fun _ => ⟨by omega, retNS ⟨by rw [Int.toNat_natCast], rfl⟩⟩⟩
    · rw [m.2 12 (by omega), m10] at q; omega
    · rw [hy, if_pos u] at q; omega
  · have m10 : D 708 12 = 1 := by
      rcases ip with h | h
      · exact absurd h.1 z
      · exact h.2.1
    refine Or.inl ⟨CN.intro mc_Ke_fractionOf (Nat.le_of_ble_eq_true rfl) rfl (s_Ke_fractionOf_0 ⟨⟨fun q => by omega, fun q => by omega, fun q => by omega, fun q => by omega, fun q => by omega, fun q => by omega, fun _ => ⟨fun q => absurd q z, fun _ => (joHas_ok h0).mono fun y D2 r2 => ?_⟩, fun q => by omega, fun q => by omega, fun q => by omega⟩, fun q => by omega⟩), mf_intro hn h3 fun D1 m y hy => s_Mo_fraction_11 ⟨⟨fun q => by omega, fun q => by omega, fun q => by omega, fun q => by omega, fun q => by omega, fun q => by omega, fun _ => ⟨fun q => ?_, fun q => ⟨fun q => retI ⟨rfl, rfl⟩, fun q => ?_⟩⟩, fun q => by omega, fun q => by omega, fun q => by omega⟩, fun q => by omega⟩⟩
    · obtain ⟨rfl, rfl⟩ := r2
      rw [if_neg u]
      exact s_Ke_fractionOf_263 ⟨fun _ => retN0 ⟨rfl, rfl⟩, fun q => absurd rfl q⟩
    · rw [m.2 12 (by omega), m10] at q; omega
    · rw [hy, if_neg u] at q; exact absurd rfl q
theorem frac7 (f : JF n r d w pl) (h3 : D 708 3 = n) (ip : IPl D n r d w pl) : FPR g D 7 i := by
  have hn := f.1
  by_cases z : D 9 0 = 0
  · have m10 : D 708 10 = 0 := by
      rcases ip with h | h
      · exact h.2
      · omega
    refine Or.inl ⟨CN.intro mc_Ke_fractionOf (Nat.le_of_ble_eq_true rfl) rfl (s_Ke_fractionOf_0 ⟨⟨fun q => by omega, fun q => by omega, fun q => by omega, fun q => by omega, fun q => by omega, fun q => by omega, fun q => by omega, fun _ => ⟨fun _ => retN0 ⟨rfl, rfl⟩, fun q => absurd z q⟩, fun q => by omega, fun q => by omega⟩, fun q => by omega⟩), mf_intro hn h3 fun D1 m y _ => s_Mo_fraction_11 ⟨⟨fun q => by omega, fun q => by omega, fun q => by omega, fun q => by omega, fun q => by omega, fun q => by omega, fun q => by omega, fun _ => ⟨fun _ => retI ⟨rfl, rfl⟩, fun q => ?_⟩, fun q => by omega, fun q => by omega⟩, fun q => by omega⟩⟩
    rw [m.2 10 (by omega)] at q; exact absurd m10 q
  by_cases u : i = 0
  · obtain ⟨m10, x, L, sz, _, _, _, _, ⟨y, y1, y2, y3⟩, _⟩ := ip.both f z
    refine Or.inr ⟨15, 108, y, by decide +kernel, by omega, y1, y2, by omega, y3, CN.intro mc_Ke_fractionOf (Nat.le_of_ble_eq_true rfl) rfl (s_Ke_fractionOf_0 ⟨⟨fun q => by omega, fun q => by omega, fun q => by omega, fun q => by omega, fun q => by omega, fun q => by omega, fun q => by omega, fun _ => ⟨fun q => absurd q z, fun _ => ⟨fun q => absurd u q, fun _ => retNS ⟨rfl, rfl⟩⟩⟩, fun q => by omega, fun q => by omega⟩, fun q => by omega⟩), mf_intro hn h3 fun D1 m y hy => s_Mo_fraction_11 ⟨⟨fun q => by omega, fun q => by omega, fun q => by omega, fun q => by omega, fun q => by omega, fun q => by omega, fun q => by omega, fun _ => ⟨fun q => ?_, fun q => ⟨fun q => absurd u q, fun _ => retI ⟨rfl, rfl⟩⟩⟩, fun q => by omega, fun q => by omega⟩, fun q => by omega⟩⟩
    rw [m.2 10 (by omega), m10] at q; omega
  · have m10 : D 708 10 = 1 := by
      rcases ip with h | h
      · exact absurd h.1 z
      · exact h.2.1
    refine Or.inl ⟨CN.intro mc_Ke_fractionOf (Nat.le_of_ble_eq_true rfl) rfl (s_Ke_fractionOf_0 ⟨⟨fun q => by omega, fun q => by omega, fun q => by omega, fun q => by omega, fun q => by omega, fun q => by omega, fun q => by omega, fun _ => ⟨fun q => absurd q z, fun _ => ⟨fun _ => retN0 ⟨rfl, rfl⟩, fun q => absurd q u⟩⟩, fun q => by omega, fun q => by omega⟩, fun q => by omega⟩), mf_intro hn h3 fun D1 m y hy => s_Mo_fraction_11 ⟨⟨fun q => by omega, fun q => by omega, fun q => by omega, fun q => by omega, fun q => by omega, fun q => by omega, fun q => by omega, fun _ => ⟨fun q => ?_, fun q => ⟨fun _ => retI ⟨rfl, rfl⟩, fun q => absurd q u⟩⟩, fun q => by omega, fun q => by omega⟩, fun q => by omega⟩⟩
    rw [m.2 10 (by omega), m10] at q; omega
theorem frac8 (f : JF n r d w pl) (h3 : D 708 3 = n) (ip : IAh D n r d w pl) : FPR g D 8 i := by
  have hn := f.1
  by_cases z : D 200 0 = 0
  · have m10 : D 708 11 = 0 := by
      rcases ip with h | h
      · exact h.2
      · omega
    refine Or.inl ⟨CN.intro mc_Ke_fractionOf (Nat.le_of_ble_eq_true rfl) rfl (s_Ke_fractionOf_0 ⟨⟨fun q => by omega, fun q => by omega, fun q => by omega, fun q => by omega, fun q => by omega, fun q => by omega, fun q => by omega, fun q => by omega, fun _ => ⟨fun _ => retN0 ⟨rfl, rfl⟩, fun q => absurd z q⟩, fun q => by omega⟩, fun q => by omega⟩), mf_intro hn h3 fun D1 m y _ => s_Mo_fraction_11 ⟨⟨fun q => by omega, fun q => by omega, fun q => by omega, fun q => by omega, fun q => by omega, fun q => by omega, fun q => by omega, fun q => by omega, fun _ => ⟨fun _ => retI ⟨rfl, rfl⟩, fun q => ?_⟩, fun q => by omega⟩, fun q => by omega⟩⟩
    rw [m.2 11 (by omega)] at q; exact absurd m10 q
  by_cases u : i = 0
  · obtain ⟨m10, x, _, _, _, _, ⟨y, y1, y2, y3⟩, _⟩ := ip.both f z
    refine Or.inr ⟨206, 109, y, by decide +kernel, by omega, y1, y2, by omega, y3, CN.intro mc_Ke_fractionOf (Nat.le_of_ble_eq_true rfl) rfl (s_Ke_fractionOf_0 ⟨⟨fun q => by omega, fun q => by omega, fun q => by omega, fun q => by omega, fun q => by omega, fun q => by omega, fun q => by omega, fun q => by omega, fun _ => ⟨fun q => absurd q z, fun _ => ⟨fun q => absurd u q, fun _ => retNS ⟨rfl, rfl⟩⟩⟩, fun q => by omega⟩, fun q => by omega⟩), mf_intro hn h3 fun D1 m y hy => s_Mo_fraction_11 ⟨⟨fun q => by omega, fun q => by omega, fun q => by omega, fun q => by omega, fun q => by omega, fun q => by omega, fun q => by omega, fun q => by omega, fun _ => ⟨fun q => ?_, fun q => ⟨fun q => absurd u q, fun _ => retI ⟨rfl, rfl⟩⟩⟩, fun q => by omega⟩, fun q => by omega⟩⟩
    rw [m.2 11 (by omega), m10] at q; omega
  · have m10 : D 708 11 = 1 := by
      rcases ip with h | h
      · exact absurd h.1 z
      · exact h.2.1
    refine Or.inl ⟨CN.intro mc_Ke_fractionOf (Nat.le_of_ble_eq_true rfl) rfl (s_Ke_fractionOf_0 ⟨⟨fun q => by omega, fun q => by omega, fun q => by omega, fun q => by omega, fun q => by omega, fun q => by omega, fun q => by omega, fun q => by omega, fun _ => ⟨fun q => absurd q z, fun _ => ⟨fun _ => retN0 ⟨rfl, rfl⟩, fun q => absurd q u⟩⟩, fun q => by omega⟩, fun q => by omega⟩), mf_intro hn h3 fun D1 m y hy => s_Mo_fraction_11 ⟨⟨fun q => by omega, fun q => by omega, fun q => by omega, fun q => by omega, fun q => by omega, fun q => by omega, fun q => by omega, fun q => by omega, fun _ => ⟨fun q => ?_, fun q => ⟨fun _ => retI ⟨rfl, rfl⟩, fun q => absurd q u⟩⟩, fun q => by omega⟩, fun q => by omega⟩⟩
    rw [m.2 11 (by omega), m10] at q; omega
theorem frac9 (f : JF n r d w pl) (h3 : D 708 3 = n) (ip : ISp D n) : FPR g D 9 i := by
  have hn := f.1
  by_cases z : D 573 0 = 0
  · have m10 : D 708 12 = 0 := by
      rcases ip with h | h
      · exact h.2
      · omega
    refine Or.inl ⟨CN.intro mc_Ke_fractionOf (Nat.le_of_ble_eq_true rfl) rfl (s_Ke_fractionOf_0 ⟨⟨fun q => by omega, fun q => by omega, fun q => by omega, fun q => by omega, fun q => by omega, fun q => by omega, fun q => by omega, fun q => by omega, fun q => by omega, fun _ => ⟨fun _ => retN0 ⟨rfl, rfl⟩, fun q => absurd z q⟩⟩, fun q => by omega⟩), mf_intro hn h3 fun D1 m y _ => s_Mo_fraction_11 ⟨⟨fun q => by omega, fun q => by omega, fun q => by omega, fun q => by omega, fun q => by omega, fun q => by omega, fun q => by omega, fun q => by omega, fun q => by omega, fun _ => ⟨fun _ => retI ⟨rfl, rfl⟩, fun q => ?_⟩⟩, fun q => by omega⟩⟩
    rw [m.2 12 (by omega)] at q; exact absurd m10 q
  by_cases u : i = 0
  · obtain ⟨m10, sp⟩ := spb ip z
    obtain ⟨y, y1, y2, y3⟩ := sp.2
    refine Or.inr ⟨578, 110, y, by decide +kernel, by omega, y1, y2, by omega, y3, CN.intro mc_Ke_fractionOf (Nat.le_of_ble_eq_true rfl) rfl (s_Ke_fractionOf_0 ⟨⟨fun q => by omega, fun q => by omega, fun q => by omega, fun q => by omega, fun q => by omega, fun q => by omega, fun q => by omega, fun q => by omega, fun q => by omega, fun _ => ⟨fun q => absurd q z, fun _ => ⟨fun q => absurd u q, fun _ => retNS ⟨rfl, rfl⟩⟩⟩⟩, fun q => by omega⟩), mf_intro hn h3 fun D1 m y hy => s_Mo_fraction_11 ⟨⟨fun q => by omega, fun q => by omega, fun q => by omega, fun q => by omega, fun q => by omega, fun q => by omega, fun q => by omega, fun q => by omega, fun q => by omega, fun _ => ⟨fun q => ?_, fun q => ⟨fun q => absurd u q, fun _ => retI ⟨rfl, rfl⟩⟩⟩⟩, fun q => by omega⟩⟩
    rw [m.2 12 (by omega), m10] at q; omega
  · have m10 : D 708 12 = 1 := by
      rcases ip with h | h
      · exact absurd h.1 z
      · exact h.2.1
    refine Or.inl ⟨CN.intro mc_Ke_fractionOf (Nat.le_of_ble_eq_true rfl) rfl (s_Ke_fractionOf_0 ⟨⟨fun q => by omega, fun q => by omega, fun q => by omega, fun q => by omega, fun q => by omega, fun q => by omega, fun q => by omega, fun q => by omega, fun q => by omega, fun _ => ⟨fun q => absurd q z, fun _ => ⟨fun _ => retN0 ⟨rfl, rfl⟩, fun q => absurd q u⟩⟩⟩, fun q => by omega⟩), mf_intro hn h3 fun D1 m y hy => s_Mo_fraction_11 ⟨⟨fun q => by omega, fun q => by omega, fun q => by omega, fun q => by omega, fun q => by omega, fun q => by omega, fun q => by omega, fun q => by omega, fun q => by omega, fun _ => ⟨fun q => ?_, fun q => ⟨fun _ => retI ⟨rfl, rfl⟩, fun q => absurd q u⟩⟩⟩, fun q => by omega⟩⟩
    rw [m.2 12 (by omega), m10] at q; omega
/-- all of them -/
theorem frac_all (f : JF n r d w pl) (h0 : JC D n r d w pl) (h3 : D 708 3 = n) (ip : IPl D n r d w pl) (ia : IAh D n r d w pl) (is : ISp D n) (wh : Int) : FPR g D wh i := by
  by_cases h : wh < 0 ∨ 9 < wh
  · exact fracElse f h3 h
  · rcases (show wh = 0 ∨ wh = 1 ∨ wh = 2 ∨ wh = 3 ∨ wh = 4 ∨ wh = 5 ∨ wh = 6 ∨ wh = 7 ∨ wh = 8 ∨ wh = 9 by omega) with e | e | e | e | e | e | e | e | e | e <;> subst e
    · exact frac0 f h3 ip
    · exact frac1 f h3 ia
    · exact frac2 f h0 h3 ip
    · exact frac3 f h0 h3 ia
    · exact frac4 f h0 h3 ip
    · exact frac5 f h0 h3 is
    · exact frac6 f h0 h3 is
    · exact frac7 f h3 ip
    · exact frac8 f h3 ia
    · exact frac9 f h3 is
end FRAC2
