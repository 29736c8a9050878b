/-! the Planner: findDensest -/
section PLAN2
variable {g : GG} {D D0 : DD} {n : Nat} {r d w : Nat → Int} {pl : Nat → Nat}
def vld (n : Nat) (r d w gs gj : Nat → Int) (i k : Nat) : Prop := i < n ∧ k < n ∧ gj i = -1 ∧ gj k = -1 ∧ r i < d k ∧ 1 ≤ cf gs (d k).toNat - cf gs (r i).toNat ∧ 0 < wki n r d w gj (r i) (d k)
def BI (n : Nat) (r d w gs gj : Nat → Int) (seen : Nat → Nat → Prop) (bf bt BW BT : Int) : Prop :=
  (BT = 0 ∧ BW = 0 ∧ ∀ i k, seen i k → ¬ vld n r d w gs gj i k) ∨
  (0 < BT ∧ BT ≤ 200 ∧ 0 < BW ∧ BW ≤ 12000 ∧ (∃ i k, vld n r d w gs gj i k ∧ bf = r i ∧ bt = d k ∧ BT = cf gs (d k).toNat - cf gs (r i).toNat ∧ BW = wki n r d w gj (r i) (d k)) ∧
    ∀ i k, seen i k → vld n r d w gs gj i k → wki n r d w gj (r i) (d k) * BT ≤ BW * (cf gs (d k).toNat - cf gs (r i).toNat))
theorem BI.bd {gs gj : Nat → Int} {seen : Nat → Nat → Prop} {bf bt BW BT : Int} (h : BI n r d w gs gj seen bf bt BW BT) : (0 ≤ BW ∧ BW ≤ 12000) ∧ (0 ≤ BT ∧ BT ≤ 200) := by
  rcases h with h | h <;> omega
theorem BI.weak {gs gj : Nat → Int} {seen seen' : Nat → Nat → Prop} {bf bt BW BT : Int} (h : BI n r d w gs gj seen bf bt BW BT) (q : ∀ i k, seen' i k → vld n r d w gs gj i k → seen i k) : BI n r d w gs gj seen' bf bt BW BT := by
  rcases h with ⟨a, b, c⟩ | ⟨a1, a2, a3, a4, a5, a6⟩
  · exact Or.inl ⟨a, b, fun i k z y => c i k (q i k z y) y⟩
  · exact Or.inr ⟨a1, a2, a3, a4, a5, fun i k z y => a6 i k (q i k z y) y⟩
/-- one more pair tried -/
theorem BI.try (f : JF n r d w pl) {gs gj : Nat → Int} {seen seen' : Nat → Nat → Prop} {D D' : DD} {i k : Nat} (h : BI n r d w gs gj seen (D 457 9) (D 457 10) (D 457 11) (D 457 12)) (hi : i < n) (hk : k < n) (gi : gj i = -1) (gk : gj k = -1)
    (ht : Try D D' (r i) (d k) (wki n r d w gj (r i) (d k)) (if (r i).toNat < (d k).toNat then cf gs (d k).toNat - cf gs (r i).toNat else 0)) (hs : ∀ i' k', seen' i' k' → seen i' k' ∨ (i' = i ∧ k' = k)) : BI n r d w gs gj seen' (D' 457 9) (D' 457 10) (D' 457 11) (D' 457 12) := by
  have wi := f.2.1 i hi
  have wk := f.2.1 k hk
  have wb := wki_bd f (gj := gj) (a := r i) (b := d k) (Nat.le_refl n)
  have hn := f.1
  have cb := cf_bd (gs := gs) (t := (d k).toNat)
  have cb2 := cf_bd (gs := gs) (t := (r i).toNat)
  obtain ⟨_, _, ⟨hb, e9, e10, e11, e12⟩ | ⟨hb, e⟩⟩ := ht
  · rw [e9, e10, e11, e12]
    obtain ⟨b1, b2, b3⟩ := hb
    have lt : (r i).toNat < (d k).toNat := by
      rcases Nat.lt_or_ge (r i).toNat (d k).toNat with z | z
      · exact z
      · rw [if_neg (by omega)] at b1; omega
    rw [if_pos lt] at b1 b3 ⊢
    refine Or.inr ⟨by omega, by omega, b2, by omega, ⟨i, k, ⟨hi, hk, gi, gk, by omega, b1, b2⟩, rfl, rfl, rfl, rfl⟩, fun i' k' s v => ?_⟩
    rcases hs i' k' s with z | ⟨z1, z2⟩
    · rcases h with ⟨_, _, c⟩ | ⟨c1, c2, c3, c4, c5, c6⟩
      · exact absurd v (c i' k' z)
      · rcases b3 with b3 | b3
        · omega
        · have q := c6 i' k' z v
          have v6 := v.2.2.2.2.2.1
          -- wk'/tm' <= BW/BT < wk/tm
          have m1 : wki n r d w gj (r i') (d k') * D 457 12 * (cf gs (d k).toNat - cf gs (r i).toNat) ≤ D 457 11 * (cf gs (d k').toNat - cf gs (r i').toNat) * (cf gs (d k).toNat - cf gs (r i).toNat) := Int.mul_le_mul_of_nonneg_right q (by omega)
          have m2 : D 457 11 * (cf gs (d k).toNat - cf gs (r i).toNat) * (cf gs (d k').toNat - cf gs (r i').toNat) ≤ wki n r d w gj (r i) (d k) * D 457 12 * (cf gs (d k').toNat - cf gs (r i').toNat) := Int.mul_le_mul_of_nonneg_right (by omega) (by omega)
          refine Int.le_of_mul_le_mul_right (a := D 457 12) ?_ c1
          grind
    · subst z1; subst z2
      exact Int.le_refl _
  · rw [e, e, e, e]
    rcases h with ⟨a, b, c⟩ | ⟨a1, a2, a3, a4, a5, a6⟩
    · refine Or.inl ⟨a, b, fun i' k' s v => ?_⟩
      rcases hs i' k' s with z | ⟨z1, z2⟩
      · exact c i' k' z v
      · subst z1; subst z2
        refine hb ⟨?_, v.2.2.2.2.2.2, Or.inl a⟩
        rw [if_pos (by have := v.2.2.2.2.1; omega)]
        exact v.2.2.2.2.2.1
    · refine Or.inr ⟨a1, a2, a3, a4, a5, fun i' k' s v => ?_⟩
      rcases hs i' k' s with z | ⟨z1, z2⟩
      · exact a6 i' k' z v
      · subst z1; subst z2
        have lt : (r i').toNat < (d k').toNat := by have := v.2.2.2.2.1; omega
        rw [if_pos lt] at hb
        refine Int.not_lt.mp fun z => hb ⟨v.2.2.2.2.2.1, v.2.2.2.2.2.2, Or.inr z⟩
/-- what the search leaves alone -/
def FD (D D' : DD) : Prop := FR 457 458 463 464 D D' ∧ (∀ j, (j < 9 ∨ 12 < j) → D' 457 j = D 457 j) ∧ D' 463 0 = D 463 0
theorem FD.tr {D D' D'' : DD} (h : FD D D') (h' : FD D' D'') : FD D D'' := ⟨h.1.tr h'.1, fun j hj => (h'.2.1 j hj).trans (h.2.1 j hj), h'.2.2.trans h.2.2⟩
theorem FD.rf {D : DD} : FD D D := ⟨FR.rf, fun _ _ => rfl, rfl⟩
theorem fd_inner (f : JF n r d w pl) (h0 : JC D0 n r d w pl) {P : DD → Prop} {i : Nat} (hi : i < n)
    (hk : ∀ D, FD D0 D → (∀ t : Nat, t ≤ 200 → D 463 t = cf (gsD D0) t) → BI n r d w (gsD D0) (gjD D0) (fun i' _ => i' < i + 1) (D 457 9) (D 457 10) (D 457 11) (D 457 12) → ∀ z3, Sg g M_Pl_findDensest (rV P) 57 [vR 457, vR 1, vI ((i + 1 : Nat) : Int), z3] [] D) :
    ∀ (m k : Nat) (D : DD), k + m = n → FD D0 D → (∀ t : Nat, t ≤ 200 → D 463 t = cf (gsD D0) t) → BI n r d w (gsD D0) (gjD D0) (fun i' k' => i' < i ∨ (i' = i ∧ k' < k)) (D 457 9) (D 457 10) (D 457 11) (D 457 12) → Sg g M_Pl_findDensest (rV P) 67 [vR 457, vR 1, vI i, vI k] [] D := by
  have hn := f.1
  intro m
  induction m with
  | zero =>
    intro k D hm hf hc hb
    obtain rfl : k = n := by omega
    have h := h0.fr hf.1 (by omega)
    have h1 := h.1
    refine s_Pl_findDensest_67 ⟨fun _ => ⟨by unfold R32; omega, hk D hf hc (hb.weak fun i' k' q v => by have := v.2.1; omega) _⟩, fun q => by omega⟩
  | succ m ih =>
    intro k D hm hf hc hb
    have h := h0.fr hf.1 (by omega)
    have h1 := h.1
    have e1 : D 461 = D0 461 := hf.1 461 (by omega) (by omega)
    have e2 : D 462 = D0 462 := hf.1 462 (by omega) (by omega)
    have gsE : gsD D = gsD D0 := by unfold gsD; rw [e2]
    have gjE : gjD D = gjD D0 := by unfold gjD; rw [e1]
    have skip : (gjD D0 i ≠ -1 ∨ gjD D0 k ≠ -1) → Sg g M_Pl_findDensest (rV P) 112 [vR 457, vR 1, vI i, vI k] [] D := fun q => s_Pl_findDensest_112 ⟨by unfold R32; omega, ih (k + 1) D (by omega) hf hc (hb.weak fun i' k' s v => by
      have a := v.2.2.1
      have b := v.2.2.2.1
      rcases s with s | ⟨s1, s2⟩
      · exact Or.inl s
      · subst s1
        rcases (show k' = k ∨ k' < k by omega) with y | y
        · subst y; rcases q with q | q <;> contradiction
        · exact Or.inr ⟨rfl, y⟩)⟩
    refine s_Pl_findDensest_67 ⟨fun q => by omega, fun _ => ⟨by omega, fun q => skip (Or.inl (by unfold gjD; rw [← e1]; exact q)), fun q => ⟨by omega, fun q2 => skip (Or.inr (by unfold gjD; rw [← e1]; exact q2)), fun q2 => ⟨by omega, ?_⟩⟩⟩⟩
    have hi2 := h.2.1 i hi
    have hk2 := h.2.1 k (by omega)
    have wi := f.2.1 i hi
    have wk := f.2.1 k (by omega)
    rw [hi2.1, hk2.2.1, show r i = (((r i).toNat : Nat) : Int) by omega, show d k = (((d k).toNat : Nat) : Int) by omega]
    have bd := hb.bd
    refine (try_ok f h (u := (r i).toNat) (v := (d k).toNat) (by omega) (by omega) (by rw [gsE]; exact hc) bd.1 bd.2).mono fun D2 ht => s_Pl_findDensest_112 ⟨by unfold R32; omega, ih (k + 1) D2 (by omega) ?_ ?_ ?_⟩
    · exact hf.tr ⟨ht.1.mono fun c _ _ => by omega, ht.2.1, by rw [ht.1 463 (by omega) (by omega)]⟩
    · intro t htt
      rw [ht.1 463 (by omega) (by omega)]
      exact hc t htt
    · rw [gsE, gjE, show (((r i).toNat : Nat) : Int) = r i by omega, show (((d k).toNat : Nat) : Int) = d k by omega] at ht
      exact hb.try f hi (by omega) (by unfold gjD; rw [← e1]; exact q) (by unfold gjD; rw [← e1]; exact q2) ht (fun i' k' s => by omega)
theorem fd_outer (f : JF n r d w pl) (h0 : JC D0 n r d w pl) : ∀ (m i : Nat) (D : DD) (z3 : VV), i + m = n → FD D0 D → (∀ t : Nat, t ≤ 200 → D 463 t = cf (gsD D0) t) → BI n r d w (gsD D0) (gjD D0) (fun i' _ => i' < i) (D 457 9) (D 457 10) (D 457 11) (D 457 12) →
    Sg g M_Pl_findDensest (rV (fun D' => FD D0 D' ∧ BI n r d w (gsD D0) (gjD D0) (fun _ _ => True) (D' 457 9) (D' 457 10) (D' 457 11) (D' 457 12))) 57 [vR 457, vR 1, vI i, z3] [] D := by
  have hn := f.1
  intro m
  induction m with
  | zero =>
    intro i D z3 hm hf hc hb
    obtain rfl : i = n := by omega
    have h1 := (h0.fr hf.1 (by omega)).1
    exact s_Pl_findDensest_57 ⟨fun _ => retV ⟨hf, hb.weak fun i' k' _ v => v.1⟩, fun q => by omega⟩
  | succ m ih =>
    intro i D z3 hm hf hc hb
    have h1 := (h0.fr hf.1 (by omega)).1
    refine s_Pl_findDensest_57 ⟨fun q => by omega, fun _ => ?_⟩
    exact fd_inner f h0 (by omega) (fun D2 f2 c2 b2 z3 => ih (i + 1) D2 z3 (by omega) f2 c2 b2) n 0 D (by omega) hf hc (hb.weak fun i' k' s v => by omega)
theorem fd_free (f : JF n r d w pl) (h0 : JC D0 n r d w pl) (hz : D0 463 0 = 0) {P : DD → Prop} (hk : ∀ D, FD D0 D → (∀ t : Nat, t ≤ 200 → D 463 t = cf (gsD D0) t) → D 457 11 = 0 → D 457 12 = 0 → ∀ z3, Sg g M_Pl_findDensest (rV P) 57 [vR 457, vR 1, vI 0, z3] [] D) : ∀ (m t : Nat) (D : DD) (z3 : VV), t + m = 200 → FD D0 D → (∀ u : Nat, u ≤ t → D 463 u = cf (gsD D0) u) → D 457 11 = 0 → D 457 12 = 0 → Sg g M_Pl_findDensest (rV P) 12 [vR 457, vR 1, vI t, z3] [] D := by
  intro m
  induction m with
  | zero =>
    intro t D z3 hm hf hc e1 e2
    obtain rfl : t = 200 := by omega
    exact s_Pl_findDensest_12 ⟨fun _ => hk D hf hc e1 e2 _, fun q => by omega⟩
  | succ m ih =>
    intro t D z3 hm hf hc e1 e2
    have cb := cf_bd (gs := gsD D0) (t := t)
    have ct := hc t (Nat.le_refl t)
    have e462 : D 462 t = gsD D0 t := by unfold gsD; rw [hf.1 462 (by omega) (by omega)]
    have nxt : ∀ x, (x = 0 ∨ x = 1) → cf (gsD D0) (t + 1) = cf (gsD D0) t + x → Sg g M_Pl_findDensest (rV P) 47 [vR 457, vR 1, vI t, vU] [vI x, vI (D 463 t), vI ((t : Int) + 1), vR 463] D := by
      intro x hx hcx
      refine s_Pl_findDensest_47 ⟨⟨by unfold R32; omega, by omega⟩, fun D3 e3 => ⟨by unfold R32; omega, ?_⟩⟩
      refine ih (t + 1) D3 _ (by omega) (hf.tr ⟨by rw [e3]; exact FR.w (by omega), fun j _ => by rw [e3, zw_off (by omega)], by rw [e3, zw_ne (Or.inr (by omega))]⟩) (fun u hu => ?_) (by rw [e3, zw_off (by omega)]; exact e1) (by rw [e3, zw_off (by omega)]; exact e2)
      rcases (show u = t + 1 ∨ u ≤ t by omega) with y | y
      · rw [y, e3, hcx, ← ct]
        exact zw_eq _ _ _ _
      · rw [e3, zw_ne (Or.inr (by omega))]
        exact hc u y
    have ec : cf (gsD D0) (t + 1) = cf (gsD D0) t + if gsD D0 t = -1 then 1 else 0 := rfl
    refine s_Pl_findDensest_12 ⟨fun q => by omega, fun _ => ⟨⟨by unfold R32; omega, by omega, by omega⟩, fun q => nxt 0 (Or.inl rfl) ?_, fun q => nxt 1 (Or.inr rfl) ?_⟩⟩
    · rw [ec, if_neg (by rw [← e462]; exact q)]
    · rw [ec, if_pos (by rw [← e462]; exact q)]
theorem findDensest_ok (f : JF n r d w pl) (h0 : JC D n r d w pl) (hz : D 463 0 = 0) : CV g M_Pl_findDensest [vR 457, vR 1] D (fun D' => FD D D' ∧ BI n r d w (gsD D) (gjD D) (fun _ _ => True) (D' 457 9) (D' 457 10) (D' 457 11) (D' 457 12)) := by
  refine CV.intro mc_Pl_findDensest (Nat.le_of_ble_eq_true rfl) rfl (s_Pl_findDensest_0 fun D1 e1 D3 e3 => ?_)
  have f3 : FD D D3 := ⟨by rw [e3, e1]; exact (FR.w (by omega)).tr (FR.w (by omega)), fun j hj => by rw [e3, zw_ne (Or.inr (by omega)), e1, zw_ne (Or.inr (by omega))], by rw [e3, zw_off (by omega), e1, zw_off (by omega)]⟩
  refine fd_free f h0 hz (fun D2 f2 c2 a1 a2 z3 => ?_) 200 0 D3 _ (by omega) f3 (fun u hu => ?_) (by rw [e3, zw_ne (Or.inr (by decide)), e1, zw_eq]) (by rw [e3, zw_eq])
  · exact fd_outer f h0 n 0 D2 z3 (by omega) f2 c2 (Or.inl ⟨a2, a1, fun i k q => by omega⟩)
  · obtain rfl : u = 0 := by omega
    show D3 463 0 = 0
    rw [f3.2.2]
    exact hz
end PLAN2
