/-! the Planner: takeDensest -/
section PLAN3
variable {g : GG} {D D0 : DD} {n : Nat} {r d w : Nat → Int} {pl : Nat → Nat}
/-- the jobs taken -/
def tkn (r d gj : Nat → Int) (f t0 : Int) (j : Nat) : Prop := gj j = -1 ∧ f ≤ r j ∧ d j ≤ t0
theorem zk_grate {k : Nat} (hk : k < 12) : zk (470 + 5 * k) = (0, 4, 0) := by
  have := ze_3 (a := 460) (i := k) (by decide) hk
  rwa [show 460 + 10 + 5 * k = 470 + 5 * k by omega] at this
theorem take_slots {G : Int} {f t0 : Nat} (hG : D0 457 0 = G) (hG0 : 0 ≤ G ∧ G < 12) (hf : D0 457 9 = f) (ht : D0 457 10 = t0) (ht0 : t0 ≤ 200) {P : DD → Prop}
    (hk : ∀ D, FR 457 458 462 463 D0 D → (∀ j, j ≠ 0 → D 457 j = D0 457 j) → D 457 0 = G + 1 → (∀ u : Nat, u < 200 → (f ≤ u ∧ u < t0 ∧ D0 462 u = -1 → D 462 u = G) ∧ (¬ (f ≤ u ∧ u < t0 ∧ D0 462 u = -1) → D 462 u = D0 462 u)) → P D) :
    ∀ (m t : Nat) (D : DD) (z1 : VV), t + m = max f t0 → f ≤ t → FR 462 463 462 463 D0 D → (∀ u : Nat, u < 200 → (f ≤ u ∧ u < t ∧ u < t0 ∧ D0 462 u = -1 → D 462 u = G) ∧ (¬ (f ≤ u ∧ u < t ∧ u < t0 ∧ D0 462 u = -1) → D 462 u = D0 462 u)) → Sg g M_Pl_takeDensest (rV P) 149 [vR 457, z1, vI t] [] D := by
  intro m
  induction m with
  | zero =>
    intro t D z1 hm hft hfr hs
    have e : D 457 = D0 457 := hfr 457 (by omega) (by omega)
    refine s_Pl_takeDensest_149 ⟨fun _ => ⟨by rw [e, hG]; unfold R32; omega, fun D3 e3 => retV (hk D3 ?_ ?_ ?_ ?_)⟩, fun q => by rw [e, ht] at q; omega⟩
    · exact (hfr.mono fun c _ _ => by omega).tr (by rw [e3]; exact FR.w (by omega))
    · intro j hj
      rw [e3, zw_ne (Or.inr hj), e]
    · rw [e3, zw_eq, e, hG]
    · intro u hu
      have := hs u hu
      rw [e3, zw_off (by omega)]
      exact ⟨fun q => this.1 ⟨q.1, by omega, q.2.1, q.2.2⟩, fun q => this.2 (fun y => q ⟨y.1, y.2.2.1, y.2.2.2⟩)⟩
  | succ m ih =>
    intro t D z1 hm hft hfr hs
    have e : D 457 = D0 457 := hfr 457 (by omega) (by omega)
    have old : D 462 t = D0 462 t := (hs t (by omega)).2 (by omega)
    refine s_Pl_takeDensest_149 ⟨fun q => by rw [e, ht] at q; omega, fun q => ⟨by omega, fun q2 => s_Pl_takeDensest_177 ⟨by unfold R32; omega, ih (t + 1) D _ (by omega) (by omega) hfr fun u hu => ?_⟩, fun q2 => ⟨by omega, fun D8 e8 => s_Pl_takeDensest_177 ⟨by unfold R32; omega, ih (t + 1) D8 _ (by omega) (by omega) (hfr.tr (by rw [e8]; exact FR.w (by omega))) fun u hu => ?_⟩⟩⟩⟩
    · have := hs u hu
      rw [old] at q2
      refine ⟨fun y => this.1 ⟨y.1, ?_, y.2.2⟩, fun y => this.2 fun z => y ⟨z.1, by omega, z.2.2⟩⟩
      rcases (show u = t ∨ u < t by omega) with x | x
      · subst x; exact absurd y.2.2.2 q2
      · exact x
    · have := hs u hu
      rw [old] at q2
      rcases (show u = t ∨ u ≠ t by omega) with x | x
      · subst x
        rw [e8]
        refine ⟨fun _ => ?_, fun y => absurd ⟨hft, by omega, by rw [e, ht] at q; omega, q2⟩ y⟩
        rw [zw_eq, e, hG]
      · rw [e8, zw_ne (Or.inr (by omega))]
        exact ⟨fun y => this.1 ⟨y.1, by omega, y.2.2⟩, fun y => this.2 fun z => y ⟨z.1, by omega, z.2.2⟩⟩
theorem take_jobs (f0 : JF n r d w pl) (h0 : JC D0 n r d w pl) {G T1 : Int} {f t0 : Nat} (hG : D0 457 0 = G) (hG0 : 0 ≤ G ∧ G < 12) (hf : D0 457 9 = f) (ht : D0 457 10 = t0) (hT : D0 457 12 = T1) (hT0 : 0 ≤ T1 ∧ T1 ≤ 200) {P : DD → Prop}
    (hk : ∀ D z1, FR 461 462 464 465 D0 D → (∀ j : Nat, j < n → (tkn r d (gjD D0) f t0 j → D 461 j = G ∧ D 464 j = w j * T1) ∧ (¬ tkn r d (gjD D0) f t0 j → D 461 j = D0 461 j ∧ D 464 j = D0 464 j)) → Sg g M_Pl_takeDensest (rV P) 149 [vR 457, z1, vI f] [] D) :
    ∀ (m i : Nat) (D : DD), i + m = n → FR 461 462 464 465 D0 D → (∀ j : Nat, j < n → (j < i ∧ tkn r d (gjD D0) f t0 j → D 461 j = G ∧ D 464 j = w j * T1) ∧ (¬ (j < i ∧ tkn r d (gjD D0) f t0 j) → D 461 j = D0 461 j ∧ D 464 j = D0 464 j)) → Sg g M_Pl_takeDensest (rV P) 77 [vR 457, vR 1, vI i] [] D := by
  have hn := f0.1
  intro m
  induction m with
  | zero =>
    intro i D hm hfr hs
    obtain rfl : i = n := by omega
    have e : D 457 = D0 457 := hfr 457 (by omega) (by omega)
    have h1 := (h0.fr hfr (by omega)).1
    refine s_Pl_takeDensest_77 ⟨fun _ => ?_, fun q => by omega⟩
    rw [e, hf]
    exact hk D _ hfr fun j hj => ⟨fun q => (hs j hj).1 ⟨hj, q⟩, fun q => (hs j hj).2 fun y => q y.2⟩
  | succ m ih =>
    intro i D hm hfr hs
    have e : D 457 = D0 457 := hfr 457 (by omega) (by omega)
    have h := h0.fr hfr (by omega)
    have h1 := h.1
    have old := (hs i (by omega)).2 (by omega)
    have wj := f0.2.2.1 i (by omega)
    have skip : ¬ tkn r d (gjD D0) f t0 i → Sg g M_Pl_takeDensest (rV P) 138 [vR 457, vR 1, vI i] [] D := fun q => s_Pl_takeDensest_138 ⟨by unfold R32; omega, ih (i + 1) D (by omega) hfr fun j hj => ⟨fun y => (hs j hj).1 ⟨by
      rcases (show j = i ∨ j < i by omega) with x | x
      · subst x; exact absurd y.2 q
      · exact x, y.2⟩, fun y => (hs j hj).2 fun z => y ⟨by omega, z.2⟩⟩⟩
    refine s_Pl_takeDensest_77 ⟨fun q => by omega, fun _ => ⟨by omega, fun q => skip fun y => q (by rw [old.1]; exact y.1), fun q => ?_⟩⟩
    rw [e, hf, ht]
    refine (within_ok f0 h (by omega)).mono fun y D2 q2 => ?_
    obtain ⟨rfl, hy⟩ := q2
    refine s_Pl_takeDensest_108 ⟨fun q2 => skip fun z => by rw [if_pos z.2] at hy; omega, fun q2 => ⟨by omega, fun D3 e3 => ?_⟩⟩
    have tk : tkn r d (gjD D0) f t0 i := ⟨by show D0 461 i = -1; rw [← old.1]; exact q, Decidable.byContradiction fun z => by rw [if_neg z] at hy; omega⟩
    have e3a : D3 457 12 = T1 := by rw [e3, zw_off (by omega), e, hT]
    have e3b : D3 4 i = w i := by rw [e3, zw_off (by omega)]; exact (h.2.1 i (by omega)).2.2
    have mb : w i * T1 ≤ 1000 * 200 := Int.mul_le_mul wj.2 hT0.2 hT0.1 (by omega)
    have mb0 := Int.mul_nonneg (show 0 ≤ w i by omega) hT0.1
    rw [e3a, e3b]
    refine ⟨⟨by omega, by unfold R32; omega, by omega⟩, fun D8 e8 => s_Pl_takeDensest_138 ⟨by unfold R32; omega, ih (i + 1) D8 (by omega) ?_ fun j hj => ?_⟩⟩
    · rw [e8, e3]
      exact hfr.tr ((FR.w (by omega)).tr (FR.w (by omega)))
    · have a1 : D8 461 = fun j => if j = (i : Int) then G else D2 461 j := by rw [e8, zw_off (by omega), e3, zw_row, e, hG]
      have a2 : D8 464 = fun j => if j = (i : Int) then w i * T1 else D2 464 j := by rw [e8, zw_row, e3, zw_off (by omega)]
      rw [a1, a2]
      show (j < i + 1 ∧ _ → (if (j : Int) = i then G else D2 461 j) = G ∧ (if (j : Int) = i then w i * T1 else D2 464 j) = w j * T1) ∧ (¬ (j < i + 1 ∧ _) → (if (j : Int) = i then G else D2 461 j) = D0 461 j ∧ (if (j : Int) = i then w i * T1 else D2 464 j) = D0 464 j)
      rcases (show j = i ∨ j ≠ i by omega) with x | x
      · subst x
        rw [if_pos rfl, if_pos rfl]
        exact ⟨fun _ => ⟨rfl, rfl⟩, fun z => absurd ⟨by omega, tk⟩ z⟩
      · rw [if_neg (by omega), if_neg (by omega)]
        exact ⟨fun z => (hs j hj).1 ⟨by omega, z.2⟩, fun z => (hs j hj).2 fun y => z ⟨by omega, y.2⟩⟩
/-- what taking a group does -/
theorem takeDensest_ok (f0 : JF n r d w pl) (h0 : JC D n r d w pl) {G : Nat} {W1 T1 : Int} {f t0 : Nat} (hG : D 457 0 = G) (hG0 : G < 12) (hf : D 457 9 = f) (ht : D 457 10 = t0) (hft : f ≤ t0) (ht0 : t0 ≤ 200) (hW : D 457 11 = W1) (hT : D 457 12 = T1) (hW0 : 0 ≤ W1 ∧ W1 ≤ 12000) (hT0 : 1 ≤ T1 ∧ T1 ≤ 200) :
    CV g M_Pl_takeDensest [vR 457, vR 1] D (fun D' => FR 457 465 (470 + 5 * G) (475 + 5 * G) D D' ∧ D' 463 = D 463 ∧ D' 457 0 = G + 1 ∧ (D' 458 = fun k => if k = (G : Int) then W1 else D 458 k) ∧ (D' 459 = fun k => if k = (G : Int) then T1 else D 459 k) ∧ Fq D' (470 + 5 * G) ((W1 : Rat) / (T1 : Rat)) ∧
      (∀ u : Nat, u < 200 → (f ≤ u ∧ u < t0 ∧ D 462 u = -1 → D' 462 u = G) ∧ (¬ (f ≤ u ∧ u < t0 ∧ D 462 u = -1) → D' 462 u = D 462 u)) ∧
      (∀ j : Nat, j < n → (tkn r d (gjD D) f t0 j → D' 461 j = G ∧ D' 464 j = w j * T1) ∧ (¬ tkn r d (gjD D) f t0 j → D' 461 j = D 461 j ∧ D' 464 j = D 464 j))) := by
  refine CV.intro mc_Pl_takeDensest (Nat.le_of_ble_eq_true rfl) rfl (s_Pl_takeDensest_0 ⟨fun q => by omega, fun _ => ⟨fun q => by omega, fun _ => ⟨fun _ => ⟨by omega, fun D5 e5 => ?_⟩, fun q => by omega⟩⟩⟩)
  have a5 : D5 457 = D 457 := by rw [e5, zw_off (by omega)]
  rw [a5]
  refine ⟨by omega, fun D8 e8 => ?_⟩
  have a8 : D8 457 = D 457 := by rw [e8, zw_off (by omega), a5]
  rw [a8, hG, hW, hT, Int.toNat_natCast]
  have mb : W1 * T1 ≤ 12000 * 200 := Int.mul_le_mul hW0.2 hT0.2 (by omega) (by omega)
  refine ⟨by omega, (frSet_ok (zk_grate hG0) hW0.1 hT0.1 (by have e : (2400000 : Int) < 2 ^ 128 := by decide
                                                             omega)).mono fun D9 r9 => s_Pl_takeDensest_75 ?_⟩
  have f9 : FR (470 + 5 * G) (475 + 5 * G) (470 + 5 * G) (475 + 5 * G) D8 D9 := r9.2.mono fun c _ _ => by omega
  have a9 : D9 457 = D 457 := by rw [f9 457 (by omega) (by omega), a8]
  have b8 : FR 458 460 458 460 D D8 := by rw [e8, e5]; exact (FR.w (by omega)).tr (FR.w (by omega))
  have r58 : D8 458 = fun k => if k = (G : Int) then W1 else D 458 k := by rw [e8, zw_off (by omega), e5, zw_row, hG, hW]
  have r59 : D8 459 = fun k => if k = (G : Int) then T1 else D 459 k := by rw [e8, zw_row, hG, hT, e5, zw_off (by omega)]
  have h9 : JC D9 n r d w pl := (h0.fr b8 (by omega)).fr f9 (by omega)
  have c61 : D9 461 = D 461 := by rw [f9 461 (by omega) (by omega), b8 461 (by omega) (by omega)]
  have c62 : D9 462 = D 462 := by rw [f9 462 (by omega) (by omega), b8 462 (by omega) (by omega)]
  have c64 : D9 464 = D 464 := by rw [f9 464 (by omega) (by omega), b8 464 (by omega) (by omega)]
  have gjE : gjD D9 = gjD D := by unfold gjD; rw [c61]
  refine take_jobs f0 h9 (G := G) (T1 := T1) (f := f) (t0 := t0) (by rw [a9]; exact hG) (by omega) (by rw [a9]; exact hf) (by rw [a9]; exact ht) (by rw [a9]; exact hT) (by omega) (fun D10 z1 f10 j10 => ?_) n 0 D9 (by omega) FR.rf (fun j hj => ⟨fun q => by omega, fun _ => ⟨rfl, rfl⟩⟩)
  have a10 : D10 457 = D 457 := by rw [f10 457 (by omega) (by omega), a9]
  have c10 : D10 462 = D 462 := by rw [f10 462 (by omega) (by omega), c62]
  refine take_slots (G := G) (f := f) (t0 := t0) (by rw [a10]; exact hG) (by omega) (by rw [a10]; exact hf) (by rw [a10]; exact ht) ht0 (fun D11 f11 g11 e11 s11 => ?_) (t0 - f) f D10 z1 (by omega) (Nat.le_refl f) FR.rf (fun u hu => ⟨fun q => by omega, fun _ => rfl⟩)
  refine ⟨?_, ?_, e11, ?_, ?_, ?_, ?_, ?_⟩
  · exact ((b8.mono fun c _ _ => by omega).tr (f9.mono fun c _ _ => by omega)).tr ((f10.mono fun c _ _ => by omega).tr (f11.mono fun c _ _ => by omega))
  · rw [f11 463 (by omega) (by omega), f10 463 (by omega) (by omega), f9 463 (by omega) (by omega), b8 463 (by omega) (by omega)]
  · rw [f11 458 (by omega) (by omega), f10 458 (by omega) (by omega), f9 458 (by omega) (by omega), r58]
  · rw [f11 459 (by omega) (by omega), f10 459 (by omega) (by omega), f9 459 (by omega) (by omega), r59]
  · exact (r9.1.fr f10 (by omega)).fr f11 (by omega)
  · intro u hu
    have := s11 u hu
    rw [c10] at this
    exact this
  · intro j hj
    have := j10 j hj
    rw [gjE, c61, c64] at this
    rw [f11 461 (by omega) (by omega), f11 464 (by omega) (by omega)]
    exact this
end PLAN3
