/-! which fraction is meant, on both sides -/
def MEQ (D D1 : DD) : Prop := (∀ c, 708 < c → D1 c = D c) ∧ ∀ k : Int, k ≠ 0 → D1 708 k = D 708 k
def KF (g : GG) (D : DD) (wh i : Int) (o : Option Nat) : Prop := CN g M_Ke_fractionOf [vR 0, vI wh, vI i] D (fun o' D' => o' = o ∧ D' = D)
def MF (g : GG) (D : DD) (wh i v : Int) : Prop := ∀ D1, MEQ D D1 → CI g M_Mo_fraction [vR 708, vI wh, vI i] D1 (fun v' D' => v' = v ∧ D' = D1)
/-- one fraction on both sides, or none -/
def FPR (g : GG) (D : DD) (wh i : Int) : Prop := (KF g D wh i none ∧ MF g D wh i (-1)) ∨ ∃ a f y, zk a = (0, 4, 0) ∧ (a + 4 < 391 ∨ (457 ≤ a ∧ a + 4 < 703)) ∧ Fq D a y ∧ Mq D f y ∧ (0 ≤ f ∧ f < 111) ∧ bnd y ∧ KF g D wh i (some a) ∧ MF g D wh i f
section FRAC
variable {g : GG} {D : DD} {n : Nat} {r d w : Nat → Int} {pl : Nat → Nat} {i : Int}
/-- the model's side begins -/
theorem mf_intro (hn : n ≤ 12) (h3 : D 708 3 = n) {wh v : Int} (k : ∀ D1, MEQ D D1 → ∀ y : Int, y = (if 0 ≤ i ∧ i < n then 1 else 0) → Sg g M_Mo_fraction (rI (fun v' D' => v' = v ∧ D' = D1)) 11 [vR 708, vI wh, vI i, vU] [vI y] D1) : MF g D wh i v := fun D1 m => by
  have e := m.2 3 (by omega)
  refine CI.intro mc_Mo_fraction (Nat.le_of_ble_eq_true rfl) rfl (s_Mo_fraction_0 ⟨by rw [e, h3]; unfold R32; omega, ?_⟩)
  refine in_ok.mono fun y D2 r2 => ?_
  obtain ⟨rfl, rfl⟩ := r2
  refine k D2 m _ ?_
  rw [e, h3]
  by_cases z : 0 ≤ i ∧ i < n
  · rw [if_pos (by omega), if_pos z]
  · rw [if_neg (by omega), if_neg z]
theorem frac0 (f : JF n r d w pl) (h3 : D 708 3 = n) (ip : IPl D n r d w pl) : FPR g D 0 i := by
  have hn := f.1
  have no : ∀ (q : ¬ (D 9 0 ≠ 0 ∧ 0 ≤ i ∧ i < D 9 1)), KF g D 0 i none := fun q => CN.intro mc_Ke_fractionOf (Nat.le_of_ble_eq_true rfl) rfl (s_Ke_fractionOf_0 ⟨⟨fun _ => (hasStep_ok (a := 9) rfl).mono fun y D2 r2 => by
    obtain ⟨rfl, rfl⟩ := r2
    rw [if_neg q]
    exact s_Ke_fractionOf_64 ⟨fun _ => retN0 ⟨rfl, rfl⟩, fun q => absurd rfl q⟩, fun q => by omega, fun q => by omega, fun q => by omega, fun q => by omega, fun q => by omega, fun q => by omega, fun q => by omega, fun q => by omega, fun q => by omega⟩, fun q => by omega⟩)
  by_cases z : D 9 0 = 0
  · have m10 : D 708 10 = 0 := by
      rcases ip with h | h
      · exact h.2
      · omega
    refine Or.inl ⟨no (by omega), mf_intro hn h3 fun D1 m y _ => s_Mo_fraction_11 ⟨⟨fun _ => ⟨fun _ => retI ⟨rfl, rfl⟩, fun q => ?_⟩, fun q => by omega, fun q => by omega, fun q => by omega, fun q => by omega, fun q => by omega, fun q => by omega, fun q => by omega, fun q => by omega, fun q => by omega⟩, fun q => by omega⟩⟩
    rw [m.2 10 (by omega)] at q; exact absurd m10 q
  · obtain ⟨m10, x, L, sz, _, ⟨fi, la, n', b, e, rt, _, pr, mp, _, _, _, bd⟩, _⟩ := ip.both f z
    have n24 := pr.2.1
    have md : ∀ (v : Int), (∀ D1, (if 0 ≤ i ∧ i ≤ (n' : Int) - 1 then v = 0 + i else v = -1)) → MF g D 0 i v := fun v hv => mf_intro hn h3 fun D1 m y _ => s_Mo_fraction_11 ⟨⟨fun _ => ⟨fun q => by rw [m.2 10 (by omega), m10] at q; omega, fun q => ⟨by rw [m.2 20 (by omega), mp.1]; unfold R32; omega, in_ok.mono fun y2 D2 r2 => by
      obtain ⟨rfl, rfl⟩ := r2
      have hv := hv D2
      rw [m.2 20 (by omega), mp.1]
      by_cases u : 0 ≤ i ∧ i ≤ (n' : Int) - 1
      · rw [if_pos u] at hv
        rw [if_pos u]
        exact s_Mo_fraction_86 ⟨fun q => by omega, fun _ => ⟨by unfold R32; omega, retI ⟨hv.symm, rfl⟩⟩⟩
      · rw [if_neg u] at hv
        rw [if_neg u]
        exact s_Mo_fraction_86 ⟨fun _ => retI ⟨hv.symm, rfl⟩, fun q => absurd rfl q⟩⟩⟩, fun q => by omega, fun q => by omega, fun q => by omega, fun q => by omega, fun q => by omega, fun q => by omega, fun q => by omega, fun q => by omega, fun q => by omega⟩, fun q => by omega⟩
    have e1 := pr.1
    by_cases u : 0 ≤ i ∧ i < n'
    · obtain ⟨k, rfl⟩ : ∃ k : Nat, i = k := ⟨i.toNat, by omega⟩
      refine Or.inr ⟨20 + 5 * k, 0 + (k : Int), rt k, zk_rate (a := 9) rfl (by omega), by omega, (pr.2.2 k (by omega)).2.2, (mp.2.2 k (by omega)).2.2, by omega, bd k (by omega), CN.intro mc_Ke_fractionOf (Nat.le_of_ble_eq_true rfl) rfl (s_Ke_fractionOf_0 ⟨⟨fun _ => (hasStep_ok (a := 9) rfl).mono fun y D2 r2 => ?_, fun q => by omega, fun q => by omega, fun q => by omega, fun q => by omega, fun q => by omega, fun q => by omega, fun q => by omega, fun q => by omega, fun q => by omega⟩, fun q => by omega⟩), md _ fun _ => by rw [if_pos (by omega)]⟩
      obtain ⟨rfl, rfl⟩ := r2
      rw [if_pos (by omega)]
      exact s_Ke_fractionOf_64 ⟨fun q => by omega, fun _ => ⟨by omega, retNS ⟨by rw [Int.toNat_natCast], rfl⟩⟩⟩
    · exact Or.inl ⟨no (by omega), md _ fun _ => by rw [if_neg (by omega)]⟩
theorem frac1 (f : JF n r d w pl) (h3 : D 708 3 = n) (ip : IAh D n r d w pl) : FPR g D 1 i := by
  have hn := f.1
  have no : ∀ (q : ¬ (D 200 0 ≠ 0 ∧ 0 ≤ i ∧ i < D 200 1)), KF g D 1 i none := fun q => CN.intro mc_Ke_fractionOf (Nat.le_of_ble_eq_true rfl) rfl (s_Ke_fractionOf_0 ⟨⟨fun q => by omega, fun _ => (hasStep_ok (a := 200) rfl).mono fun y D2 r2 => by
    obtain ⟨rfl, rfl⟩ := r2
    rw [if_neg q]
    exact s_Ke_fractionOf_89 ⟨fun _ => retN0 ⟨rfl, rfl⟩, fun q => absurd rfl q⟩, fun q => by omega, fun q => by omega, fun q => by omega, fun q => by omega, fun q => by omega, fun q => by omega, fun q => by omega, fun q => by omega⟩, fun q => by omega⟩)
  by_cases z : D 200 0 = 0
  · have m10 : D 708 11 = 0 := by
      rcases ip with h | h
      · exact h.2
      · omega
    refine Or.inl ⟨no (by omega), mf_intro hn h3 fun D1 m y _ => s_Mo_fraction_11 ⟨⟨fun q => by omega, fun _ => ⟨fun _ => retI ⟨rfl, rfl⟩, fun q => ?_⟩, fun q => by omega, fun q => by omega, fun q => by omega, fun q => by omega, fun q => by omega, fun q => by omega, fun q => by omega, fun q => by omega⟩, fun q => by omega⟩⟩
    rw [m.2 11 (by omega)] at q; exact absurd m10 q
  · obtain ⟨m10, x, _, ⟨fi, la, n', b, e, rt, _, pr, mp, _, bd⟩, _⟩ := ip.both f z
    have n24 := pr.2.1
    have md : ∀ (v : Int), (∀ D1 : DD, (if 0 ≤ i ∧ i ≤ (n' : Int) - 1 then v = 24 + i else v = -1)) → MF g D 1 i v := fun v hv => mf_intro hn h3 fun D1 m y _ => s_Mo_fraction_11 ⟨⟨fun q => by omega, fun _ => ⟨fun q => by rw [m.2 11 (by omega), m10] at q; omega, fun q => ⟨by rw [m.2 26 (by omega), mp.1]; unfold R32; omega, in_ok.mono fun y2 D2 r2 => by
      obtain ⟨rfl, rfl⟩ := r2
      have hv := hv D2
      rw [m.2 26 (by omega), mp.1]
      by_cases u : 0 ≤ i ∧ i ≤ (n' : Int) - 1
      · rw [if_pos u] at hv
        rw [if_pos u]
        exact s_Mo_fraction_115 ⟨fun q => by omega, fun _ => ⟨by unfold R32; omega, retI ⟨hv.symm, rfl⟩⟩⟩
      · rw [if_neg u] at hv
        rw [if_neg u]
        exact s_Mo_fraction_115 ⟨fun _ => retI ⟨hv.symm, rfl⟩, fun q => absurd rfl q⟩⟩⟩, fun q => by omega, fun q => by omega, fun q => by omega, fun q => by omega, fun q => by omega, fun q => by omega, fun q => by omega, fun q => by omega⟩, fun q => by omega⟩
    have e1 := pr.1
    by_cases u : 0 ≤ i ∧ i < n'
    · obtain ⟨k, rfl⟩ : ∃ k : Nat, i = k := ⟨i.toNat, by omega⟩
      refine Or.inr ⟨211 + 5 * k, 24 + (k : Int), rt k, zk_rate (a := 200) rfl (by omega), by omega, (pr.2.2 k (by omega)).2.2, (mp.2.2 k (by omega)).2.2, by omega, bd k (by omega), CN.intro mc_Ke_fractionOf (Nat.le_of_ble_eq_true rfl) rfl (s_Ke_fractionOf_0 ⟨⟨fun q => by omega, fun _ => (hasStep_ok (a := 200) rfl).mono fun y D2 r2 => ?_, fun q => by omega, fun q => by omega, fun q => by omega, fun q => by omega, fun q => by omega, fun q => by omega, fun q => by omega, fun q => by omega⟩, fun q => by omega⟩), md _ fun _ => by rw [if_pos (by omega)]⟩
      obtain ⟨rfl, rfl⟩ := r2
      rw [if_pos (by omega)]
      exact s_Ke_fractionOf_89 ⟨fun q => by omega, fun _ => ⟨by omega, retNS ⟨by rw [Int.toNat_natCast], rfl⟩⟩⟩
    · exact Or.inl ⟨no (by omega), md _ fun _ => by rw [if_neg (by omega)]⟩
theorem fracElse (f : JF n r d w pl) (h3 : D 708 3 = n) {wh : Int} (hw : wh < 0 ∨ 9 < wh) : FPR g D wh i := by
  refine Or.inl ⟨CN.intro mc_Ke_fractionOf (Nat.le_of_ble_eq_true rfl) rfl (s_Ke_fractionOf_0 ⟨⟨fun q => by omega, fun q => by omega, fun q => by omega, fun q => by omega, fun q => by omega, fun q => by omega, fun q => by omega, fun q => by omega, fun q => by omega, fun q => by omega⟩, fun _ => retN0 ⟨rfl, rfl⟩⟩), mf_intro f.1 h3 fun D1 m y _ => s_Mo_fraction_11 ⟨⟨fun q => by omega, fun q => by omega, fun q => by omega, fun q => by omega, fun q => by omega, fun q => by omega, fun q => by omega, fun q => by omega, fun q => by omega, fun q => by omega⟩, fun _ => retI ⟨rfl, rfl⟩⟩⟩
end FRAC
