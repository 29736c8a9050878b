/-! the Planner: workOff -/
theorem si_sum_bd {f : Nat → Int} {B : Int} : ∀ {n : Nat}, (∀ i, i < n → 0 ≤ f i ∧ f i ≤ B) → 0 ≤ si f n ∧ si f n ≤ B * n
  | 0, _ => ⟨Int.le_refl _, by simp [si]⟩
  | n + 1, q => by
    have ih := si_sum_bd (f := f) (B := B) (n := n) fun i hi => q i (by omega)
    have qn := q n (by omega)
    have e : B * ((n + 1 : Nat) : Int) = B * n + B := by rw [Int.natCast_add, Int.mul_add, Int.natCast_one, Int.mul_one]
    rw [e]
    show 0 ≤ si f n + f n ∧ si f n + f n ≤ _
    omega
theorem Cert.Wb {n : Nat} {r d w gs gj : Nat → Int} {G : Int} {W T : Int → Int} (c : Cert n r d w gs gj G W T) (hn : n ≤ 12) (hw : ∀ j, j < n → 0 < w j ∧ w j ≤ 1000) {k : Int} (h0 : 0 ≤ k) (h1 : k < G) : 0 < W k ∧ W k ≤ 12000 := by
  refine ⟨(c.pos k h0 h1).1, ?_⟩
  have e : (W k : Rat) = ((si (fun j => if gj j = k then w j else 0) n : Int) : Rat) := by rw [si_sp (f := w) (P := fun j => gj j = k)]; exact c.Wd k h0 h1
  have e2 := Rat.intCast_inj.mp e
  have b := si_sum_bd (f := fun j => if gj j = k then w j else 0) (B := 1000) (n := n) fun i hi => by
    have := hw i hi
    show 0 ≤ (if gj i = k then w i else 0) ∧ (if gj i = k then w i else 0) ≤ 1000
    split <;> omega
  omega
theorem Cert.Tb {n : Nat} {r d w gs gj : Nat → Int} {G : Int} {W T : Int → Int} (c : Cert n r d w gs gj G W T) {k : Int} (h0 : 0 ≤ k) (h1 : k < G) : 0 < T k ∧ T k ≤ 200 := by
  refine ⟨(c.pos k h0 h1).2, ?_⟩
  have e : (T k : Rat) = ((si (fun t => if gs t = k then 1 else 0) 200 : Int) : Rat) := by rw [si_sp (f := fun _ => 1) (P := fun t => gs t = k)]; exact c.Td k h0 h1
  have e2 := Rat.intCast_inj.mp e
  have b := si_sum_bd (f := fun t => if gs t = k then (1 : Int) else 0) (B := 1) (n := 200) fun i hi => by
    show 0 ≤ (if gs i = k then (1 : Int) else 0) ∧ (if gs i = k then (1 : Int) else 0) ≤ 1
    split <;> omega
  omega
theorem bd_rat {x : Rat} {N C : Int} (hC : 0 < C) (hN : 0 ≤ N) (h : x * (C : Rat) = (N : Rat)) : x.num ≤ N ∧ (x.den : Int) ≤ C := by
  have c0 : (0 : Rat) < (C : Rat) := Rat.intCast_pos.mpr hC
  have e : x = (N : Rat) / (C : Rat) := by
    rw [← h, Rat.mul_div_cancel]
    intro z; rw [z] at c0; exact absurd c0 Rat.lt_irrefl
  rw [e]
  exact low_le hN hC
theorem sp_int {P : Nat → Prop} {f : Nat → Rat} {c : Rat} : ∀ {n : Nat}, (∀ i, i < n → P i → ∃ K : Int, f i * c = (K : Rat)) → ∃ K : Int, sp P f n * c = (K : Rat)
  | 0, _ => ⟨0, by show (0 : Rat) * c = _; rw [Rat.zero_mul]; rfl⟩
  | n + 1, h => by
    obtain ⟨K, hK⟩ := sp_int (P := P) (f := f) (c := c) (n := n) fun i hi => h i (by omega)
    rcases Classical.em (P n) with y | y
    · obtain ⟨M, hM⟩ := h n (by omega) y
      exact ⟨K + M, by rw [sp_t y, Rat.add_mul, hK, hM, Rat.intCast_add]⟩
    · exact ⟨K, by rw [sp_f y, hK]⟩
/-- up to a time all is worked off -/
def WO (n : Nat) (r w : Nat → Int) (pl : Nat → Nat) (a : Nat) (x : Nat → Rat) (D0 : DD) (t : Nat) (D : DD) : Prop :=
  (∀ c, c ≠ 464 → c ≠ a + 5 → (c < a + 131 ∨ a + 191 ≤ c) → D c = D0 c) ∧
  (∀ j, j < n → (D 464 j : Rat) = edf n pl r w x t j * (D0 459 (D0 461 j) : Rat)) ∧
  (∀ j, j < n → edf n pl r w x t j = 0 → ∃ y, En n r w pl x j y ∧ Fq D (a + 131 + 5 * j) y ∧ y.num < 2 ^ 30 ∧ (y.den : Int) < 2 ^ 30) ∧
  (∀ u : Nat, u < t → Wk n r w pl x u (D (a + 5) u)) ∧
  ∀ u : Nat, t ≤ u → u < 200 → D (a + 5) u = -1
section PLAN8
variable {g : GG} {D D0 : DD} {n a : Nat} {r d w : Nat → Int} {pl : Nat → Nat}
theorem workOffAt_ok (k : zk a = (0, 5, 0)) (f : JF n r d w pl) {x : Nat → Rat} {G : Int} (hx : x = spd (gsD D0) (D0 458) (D0 459)) (h0 : JC D0 n r d w pl) (hG : D0 457 0 = G) (hG2 : G ≤ 12) (c : Cert n r d w (gsD D0) (gjD D0) G (D0 458) (D0 459)) {t : Nat} (ht : t < 200) (hg : 0 ≤ gsD D0 t) (h : WO n r w pl a x D0 t D) :
    CV g M_Pl_workOffAt [vR 457, vR 1, vR a, vI t, vI (D0 462 t)] D (fun D' => WO n r w pl a x D0 (t + 1) D') := by
  have hpl := f.2.2.2
  have pa := pr_at k
  obtain ⟨h1, h2, h3, h4, h5⟩ := h
  have inv := plan_inv c hpl t (by omega)
  rw [← hx] at inv
  have gb := (c.gs0 t ht).2
  have fr : ∀ c, c ≠ 464 → c < 9 ∨ 457 ≤ c → D c = D0 c := fun c c1 c2 => h1 c c1 (by omega) (by omega)
  have e457 := fr 457 (by omega) (by omega)
  have e458 := fr 458 (by omega) (by omega)
  have e459 := fr 459 (by omega) (by omega)
  have e461 := fr 461 (by omega) (by omega)
  have jc : JC D n r d w pl := h0.of fun c c1 c2 => fr c (by omega) (by omega)
  have xs : x t = sdk (D0 458) (D0 459) (gsD D0 t) := by rw [hx]; exact if_neg (by omega)
  have W1 := c.Wb f.1 f.2.2.1 hg gb
  have T1 := c.Tb hg gb
  have sT := c.sT hg gb
  have Tq : (0 : Rat) < (D0 459 (gsD D0 t) : Rat) := Rat.intCast_pos.mpr T1.1
  have Sp := c.sp0 hg gb
  have c0 : cum (fun j => D 461 j = D0 462 t ∧ r j ≤ (t : Int)) (edf n pl r w x t) pl 0 = 0 := rfl
  have elq : (fun j : Nat => D 461 j = D0 462 t ∧ r j ≤ (t : Int)) = (fun j => gjD D0 j = gsD D0 t ∧ r j ≤ (t : Int)) := by rw [e461]; rfl
  refine CV.mono (P := fun D' => ∃ used', WA n a pl (fun j => D 461 j = D0 462 t ∧ r j ≤ (t : Int)) (sdk (D0 458) (D0 459) (gsD D0 t)) (edf n pl r w x t) (fun j => (D 459 (D 461 j) : Rat)) (D0 459 (gsD D0 t) : Rat) t D D' n used') (CV.intro mc_Pl_workOffAt (Nat.le_of_ble_eq_true rfl) rfl (s_Pl_workOffAt_0 k ⟨fun q => by omega, fun _ => ⟨fun q => by omega, fun _ => (hasGroup_ok (G := G.toNat) (by rw [e457]; omega)).mono fun y D2 r2 => ?_⟩⟩)) ?_
  · obtain ⟨rfl, rfl⟩ := r2
    have gb2 : D0 462 (t : Int) < G := gb
    have hg2 : 0 ≤ D0 462 (t : Int) := hg
    rw [if_pos ⟨hg2, by omega⟩]
    refine s_Pl_workOffAt_17 k ⟨fun _ => ⟨by omega, ?_⟩, fun q => by omega⟩
    refine workAt_loop k f jc ht hg2 (by rw [e458]; exact W1) T1 (by rw [e458]; exact sT) inv.1 (fun j hj q => by rw [e459, q]; rfl) n 0 0 D2 _ _ (by omega) (by omega) ⟨FO.rf, ?_, fun q hq => ?_, fun q _ q0 => by omega, fun q hq _ c _ _ => rfl, fun q => by omega⟩
    · rw [c0]
      have : min (0 : Rat) (sdk (D0 458) (D0 459) (gsD D0 t)) = 0 := by grind
      rw [this]; grind
    · rw [if_neg (by omega), e459, e461]; exact h2 _ (hpl.1 q hq)
  rintro D' ⟨used', wa⟩
  rw [elq] at wa
  obtain ⟨a1, a2, a3, a4, a5, a6⟩ := wa
  have same : ∀ p, p ≤ n → min (cum (fun j => gjD D0 j = gsD D0 t ∧ r j ≤ (t : Int)) (edf n pl r w x t) pl p) (sdk (D0 458) (D0 459) (gsD D0 t)) = min (cum (fun j => r j ≤ (t : Int)) (edf n pl r w x t) pl p) (x t) := fun p hp => by rw [inv.same c hpl ht hg hp, xs]
  have snx : ∀ j, j < n → nx n pl (fun j => gjD D0 j = gsD D0 t ∧ r j ≤ (t : Int)) (sdk (D0 458) (D0 459) (gsD D0 t)) (edf n pl r w x t) j = edf n pl r w x (t + 1) j := fun j hj => by
    rw [← inv.same_nx c hpl ht hg j hj, ← xs]; rfl
  have gd : ∀ j c : Nat, j < 12 → a + 131 + 5 * j ≤ c → c < a + 131 + 5 * j + 5 → c ≠ 464 ∧ c ≠ a + 5 := fun j c h1 h2 h3 => by omega
  have fu := inv.full c hpl ht hg
  have un : min (cum (fun j => gjD D0 j = gsD D0 t ∧ r j ≤ (t : Int)) (edf n pl r w x t) pl n) (sdk (D0 458) (D0 459) (gsD D0 t)) = sdk (D0 458) (D0 459) (gsD D0 t) := by grind
  refine ⟨fun c c1 c2 c3 => (a1.1 c c1 c2 c3).trans (h1 c c1 c2 c3), fun j hj => ?_, fun j hj z => ?_, fun u hu => ?_, fun u hu hu2 => ?_⟩
  · obtain ⟨q, hq, rfl⟩ := hpl.2.2 j hj
    have := a3 q hq
    rw [if_pos hq, snx _ hj, e459, e461] at this
    exact this
  · obtain ⟨q, hq, rfl⟩ := hpl.2.2 j hj
    have rn := inv.1 _ hj
    have hj12 := Nat.lt_of_lt_of_le hj f.1
    rcases Classical.em (edf n pl r w x t (pl q) = 0) with y0 | y0
    · obtain ⟨y, y1, y2, y3⟩ := h3 _ hj y0
      refine ⟨y, y1, Fq.cells y2 ?_, y3⟩
      exact fun c c1 c2 => a5 q hq (Or.inr fun z => by rw [y0] at z; exact absurd z.1 Rat.lt_irrefl) c c1 (by omega)
    · have rp : 0 < edf n pl r w x t (pl q) := by grind
      have := a4 q hq hq rp (by rw [snx _ hj]; exact z)
      obtain ⟨K, hK⟩ := sp_int (P := fun q => gjD D0 (pl q) = gsD D0 t ∧ r (pl q) ≤ (t : Int)) (f := fun q => edf n pl r w x t (pl q)) (c := (D0 459 (gsD D0 t) : Rat)) (n := q + 1) fun i hi z => ⟨D 464 (pl i), by
        have e := h2 (pl i) (hpl.1 i (by omega))
        rw [show D0 461 ((pl i : Nat) : Int) = gsD D0 t from z.1] at e
        exact e.symm⟩
      have hK2 : cum (fun j => gjD D0 j = gsD D0 t ∧ r j ≤ (t : Int)) (edf n pl r w x t) pl (q + 1) * (D0 459 (gsD D0 t) : Rat) = (K : Rat) := hK
      have c0 := cum_nn (el := fun j => gjD D0 j = gsD D0 t ∧ r j ≤ (t : Int)) hpl inv.1 (show q + 1 ≤ n by omega)
      have K0 : 0 ≤ K := by
        refine Rat.intCast_nonneg.mp ?_
        rw [← hK2]
        exact Rat.mul_nonneg c0 (Rat.le_of_lt Tq)
      have bd := bd_rat (x := (t : Rat) + min (cum (fun j => gjD D0 j = gsD D0 t ∧ r j ≤ (t : Int)) (edf n pl r w x t) pl (q + 1)) (sdk (D0 458) (D0 459) (gsD D0 t)) / sdk (D0 458) (D0 459) (gsD D0 t)) (C := D0 458 (gsD D0 t)) (N := t * D0 458 (gsD D0 t) + min K (D0 458 (gsD D0 t))) W1.1 (by have := Int.mul_nonneg (show (0 : Int) ≤ t by omega) (show 0 ≤ D0 458 (gsD D0 t) by omega); omega) (by
        rw [← sT, Rat.intCast_add, Rat.intCast_mul, show (((t : Nat) : Int) : Rat) = (t : Rat) from rfl, ← sT]
        rcases Rat.le_total (a := cum (fun j => gjD D0 j = gsD D0 t ∧ r j ≤ (t : Int)) (edf n pl r w x t) pl (q + 1)) (b := sdk (D0 458) (D0 459) (gsD D0 t)) with y | y
        · have y1 := Rat.mul_le_mul_of_nonneg_right y (Rat.le_of_lt Tq)
          rw [hK2, sT] at y1
          rw [Int.min_eq_left (Rat.intCast_le_intCast.mp y1), ← hK2, show min (cum (fun j => gjD D0 j = gsD D0 t ∧ r j ≤ (t : Int)) (edf n pl r w x t) pl (q + 1)) (sdk (D0 458) (D0 459) (gsD D0 t)) = cum (fun j => gjD D0 j = gsD D0 t ∧ r j ≤ (t : Int)) (edf n pl r w x t) pl (q + 1) by grind]
          grind
        · have y1 := Rat.mul_le_mul_of_nonneg_right y (Rat.le_of_lt Tq)
          rw [hK2, sT] at y1
          rw [Int.min_eq_right (Rat.intCast_le_intCast.mp y1), ← sT, show min (cum (fun j => gjD D0 j = gsD D0 t ∧ r j ≤ (t : Int)) (edf n pl r w x t) pl (q + 1)) (sdk (D0 458) (D0 459) (gsD D0 t)) = sdk (D0 458) (D0 459) (gsD D0 t) by grind]
          grind)
      rw [same (q + 1) hq, ← xs] at this bd
      have m1 : (t : Int) * D0 458 (gsD D0 t) ≤ 200 * 12000 := Int.mul_le_mul (by omega) W1.2 (by omega) (by omega)
      exact ⟨_, ⟨t, q, ht, hq, rfl, rp, z, rfl⟩, this, by omega, by omega⟩
  · rcases Nat.lt_or_ge u t with y | y
    · rw [a1.2 u (by omega)]; exact h4 u y
    · obtain rfl : u = t := by omega
      have up : 0 < used' := by
        refine Rat.intCast_pos.mp ?_
        rw [a2, un]
        exact Rat.mul_pos Sp Tq
      obtain ⟨q, q1, q2, q3, q4⟩ := a6 up
      refine Or.inr ⟨by rw [xs]; exact Sp, q, q1, q2, ?_, ?_⟩
      · rw [← same q (by omega)]; exact q3
      · rw [← same (q + 1) q1]; exact q4
  · rw [a1.2 u (by omega)]; exact h5 u (by omega) hu2
theorem workOff_loop (k : zk a = (0, 5, 0)) (f : JF n r d w pl) {x : Nat → Rat} {G : Int} (hx : x = spd (gsD D0) (D0 458) (D0 459)) (h0 : JC D0 n r d w pl) (hG : D0 457 0 = G) (hG2 : G ≤ 12) (c : Cert n r d w (gsD D0) (gjD D0) G (D0 458) (D0 459)) :
    ∀ (m t : Nat) (D : DD), t + m = 200 → WO n r w pl a x D0 t D → Sg g M_Pl_workOff (rV (fun D' => WO n r w pl a x D0 200 D')) 2 [vR 457, vR 1, vR a, vI t] [] D := by
  have hpl := f.2.2.2
  have pa := pr_at k
  intro m
  induction m with
  | zero =>
    intro t D hm h
    obtain rfl : t = 200 := by omega
    exact s_Pl_workOff_2 k ⟨fun _ => retV h, fun q => by omega⟩
  | succ m ih =>
    intro t D hm h
    have ht : t < 200 := by omega
    have e457 : D 457 = D0 457 := h.1 457 (by omega) (by omega) (by omega)
    have e462 : D 462 = D0 462 := h.1 462 (by omega) (by omega) (by omega)
    have gb := c.gs0 t ht
    have e0 : gsD D0 t = D0 462 t := rfl
    refine s_Pl_workOff_2 k ⟨fun q => by omega, fun _ => ⟨by omega, ?_⟩⟩
    refine (hasGroup_ok (G := G.toNat) (by rw [e457]; omega)).mono fun y D2 r2 => ?_
    obtain ⟨rfl, rfl⟩ := r2
    rw [e462]
    have fin : ∀ D', WO n r w pl a x D0 (t + 1) D' → Sg g M_Pl_workOff (rV (fun D' => WO n r w pl a x D0 200 D')) 35 [vR 457, vR 1, vR a, vI t] [] D' := fun D' h' => s_Pl_workOff_35 k ⟨by unfold R32; omega, ih (t + 1) D' (by omega) h'⟩
    refine s_Pl_workOff_19 k ⟨fun q => fin _ ?_, fun q => ⟨by omega, ?_⟩⟩
    · have q : gsD D0 t < 0 := by
        refine Decidable.byContradiction fun z => ?_
        rw [if_pos (by omega)] at q; omega
      have x0 : x t = 0 := by rw [hx]; exact if_pos q
      have inv := plan_inv c hpl t (by omega)
      rw [← hx] at inv
      have e : ∀ j, j < n → edf n pl r w x (t + 1) j = edf n pl r w x t j := fun j hj => by
        show nx n pl _ (x t) _ j = _
        rw [x0]; exact nx_zero hpl inv.1 j hj
      obtain ⟨h1, h2, h3, h4, h5⟩ := h
      refine ⟨h1, fun j hj => by rw [e j hj]; exact h2 j hj, fun j hj z => h3 j hj (by rw [← e j hj]; exact z), fun u hu => ?_, fun u hu hu2 => h5 u (by omega) hu2⟩
      rcases Nat.lt_or_ge u t with y | y
      · exact h4 u y
      · obtain rfl : u = t := by omega
        exact Or.inl ⟨x0, h5 u (by omega) ht⟩
    · have q : 0 ≤ gsD D0 t := by
        refine Decidable.byContradiction fun z => ?_
        rw [if_neg (by omega)] at q; omega
      rw [e462]
      exact (workOffAt_ok k f hx h0 hG hG2 c ht q h).mono fun D' h' => fin D' h'
theorem workOff_ok (k : zk a = (0, 5, 0)) (f : JF n r d w pl) {x : Nat → Rat} {G : Int} (hx : x = spd (gsD D) (D 458) (D 459)) (h0 : JC D n r d w pl) (hG : D 457 0 = G) (hG2 : G ≤ 12) (c : Cert n r d w (gsD D) (gjD D) G (D 458) (D 459)) (hl : ∀ j : Nat, j < n → D 464 j = w j * D 459 (D 461 j)) (hw : ∀ u : Nat, u < 200 → D (a + 5) u = -1) :
    CV g M_Pl_workOff [vR 457, vR 1, vR a] D (fun D' => WO n r w pl a x D 200 D') := by
  refine CV.intro mc_Pl_workOff (Nat.le_of_ble_eq_true rfl) rfl (s_Pl_workOff_0 k (workOff_loop k f hx h0 hG hG2 c 200 0 D (by omega) ⟨fun _ _ _ _ => rfl, fun j hj => ?_, fun j hj z => ?_, fun u hu => by omega, fun u _ hu => hw u hu⟩))
  · rw [hl j hj, Rat.intCast_mul]; rfl
  · have := f.2.2.1 j hj
    have z : (w j : Rat) = 0 := z
    have := Rat.intCast_eq_zero_iff.mp z
    omega
end PLAN8
