/-! split: the class, a group, and all of them -/
def GI (D : DD) (n lv : Nat) (rt w : Nat → Int) (y : Rat) (u : Nat) (k : Int) (D' : DD) : Prop :=
  (∀ c, c ≠ 574 → c ≠ 575 → (c < 391 ∨ (457 ≤ c ∧ c < 578) ∨ 703 ≤ c) → D' c = D c) ∧
  ∀ j : Nat, j < n → (D 461 j = k → SJ D' lv rt w y u j) ∧ (D 461 j ≠ k → D' 574 j = D 574 j ∧ D' 575 j = D 575 j ∧ ∀ c, 583 + 10 * j ≤ c → c < 593 + 10 * j → D' c = D c)
section SPLIT3
variable {g : GG} {D D' D0 D1 : DD} {n lv : Nat} {r d w rt ct : Nat → Int} {pl : Nat → Nat} {x : Nat → Rat} {y : Rat} {u u' : Nat}
theorem add_bd {P Q a v : Int} (hP : 0 ≤ P ∧ P ≤ 2 ^ 300) (hQ : 0 < Q ∧ Q ≤ 2 ^ 200) (ha : 0 ≤ a ∧ a ≤ 2 ^ 43) (hv : 1 ≤ v ∧ v ≤ 2 ^ 14) : Q * a < BB ^ 32 ∧ P * v < BB ^ 32 ∧ P * v + Q * a < BB ^ 32 ∧ Q * v < BB ^ 32 := by
  have m1 : Q * a ≤ 2 ^ 200 * 2 ^ 43 := Int.mul_le_mul hQ.2 ha.2 ha.1 (by decide)
  have m2 : P * v ≤ 2 ^ 300 * 2 ^ 14 := Int.mul_le_mul hP.2 hv.2 (by omega) (by decide)
  have m3 : Q * v ≤ 2 ^ 200 * 2 ^ 14 := Int.mul_le_mul hQ.2 hv.2 (by omega) (by decide)
  have b : (2 : Int) ^ 200 * 2 ^ 43 + 2 ^ 300 * 2 ^ 14 + 2 ^ 200 * 2 ^ 14 < BB ^ 32 := by decide +kernel
  have b1 : (0 : Int) < 2 ^ 200 * 2 ^ 43 := by decide
  have b2 : (0 : Int) < 2 ^ 300 * 2 ^ 14 := by decide
  have b3 : (0 : Int) < 2 ^ 200 * 2 ^ 14 := by decide
  omega
theorem spGroup_ok (f : JF n r d w pl) (h0 : JC D n r d w pl) (lf : LF lv rt ct) (lc : LC D lv rt ct) {G k : Nat} (hG : D 457 0 = G) (hk : k < G) (hG2 : G ≤ 12) {W T : Int} (eW : D 458 k = W) (eT : D 459 k = T) (hW : 0 < W ∧ W ≤ 12000) (hT : 0 < T ∧ T ≤ 200) (hy : y = (W : Rat) / (T : Rat)) (hu : UPL lv rt y u)
    {P Q : Int} (hp : Fp D 578 P Q) (hP : 0 ≤ P ∧ P ≤ 2 ^ 300) (hQ : 0 < Q ∧ Q ≤ 2 ^ 200) :
    CV g M_Sp_splitGroup [vR 573, vR 457, vI k, vR 1, vR 6, vI u, vR 391] D (fun D' => (∃ a v : Int, (0 ≤ a ∧ a ≤ 2 ^ 43) ∧ (1 ≤ v ∧ v ≤ 10000) ∧ (a : Rat) / (v : Rat) = (T : Rat) * cper lv rt ct y u ∧ Fp D' 578 (P * v + Q * a) (Q * v)) ∧ GI D n lv rt w y u k D') := by
  have u8 := hu.1
  have lv8 := lf.1
  have t0 : (0 : Rat) < (T : Rat) := Rat.intCast_pos.mpr hT.1
  have w0 : (0 : Rat) < (W : Rat) := Rat.intCast_pos.mpr hW.1
  have y0 : 0 < y := by
    rw [hy, Rat.lt_div_iff t0, Rat.zero_mul]
    exact w0
  have rb := (lf.2.1 u u8).1
  have cb := (lf.2.1 u u8).2
  have lb := lf.rb ((u : Int) - 1)
  have lcb := lf.cb ((u : Int) - 1)
  have h3 : rt u * T ≤ 10000 * 200 := Int.mul_le_mul rb.2 hT.2 (by omega) (by decide)
  have h4 : 0 ≤ rt u * T := Int.mul_nonneg (by omega) (by omega)
  have l3 : 0 ≤ lz lv rt ((u : Int) - 1) * T := Int.mul_nonneg lb.1 (by omega)
  have l4 : lz lv rt ((u : Int) - 1) * T ≤ 10000 * 200 := Int.mul_le_mul lb.2 hT.2 (by omega) (by decide)
  have b43 : (2 : Int) ^ 43 = 8796093022208 := by decide
  have b14 : (2 : Int) ^ 14 = 16384 := by decide
  have ee : y = (rt u : Rat) ↔ rt u * T - W = 0 := by
    constructor
    · intro e
      have q : (W : Rat) = (rt u : Rat) * (T : Rat) := by rw [← e, hy]; exact (Rat.div_mul_cancel (by grind)).symm
      rw [← Rat.intCast_mul] at q
      have := Rat.intCast_inj.mp q
      omega
    · intro e
      have q : W = rt u * T := by omega
      rw [hy, q, Rat.intCast_mul]
      exact Rat.mul_div_cancel (by grind)
  refine CV.intro mc_Sp_splitGroup (Nat.le_of_ble_eq_true rfl) rfl (s_Sp_splitGroup_0 ((hasGroup_ok hG).mono fun v D2 r2 => ?_))
  obtain ⟨rfl, rfl⟩ := r2
  rw [show (if (0 : Int) ≤ (k : Int) ∧ (k : Int) < G then (1 : Int) else 0) = 1 from if_pos (by omega)]
  refine s_Sp_splitGroup_5 ⟨fun _ => ⟨⟨by omega, by omega⟩, (rateOf_ok lf lc).mono fun v D3 r3 => ?_⟩, fun q => by omega⟩
  obtain ⟨rfl, rfl⟩ := r3
  rw [eW, eT, lz_at u8]
  -- behind the sum
  have tail : ∀ (D4 : DD) (a v low ap und ov : Int), FR 391 457 578 583 D3 D4 → (0 ≤ a ∧ a ≤ 2 ^ 43) → (1 ≤ v ∧ v ≤ 10000) → (a : Rat) / (v : Rat) = (T : Rat) * cper lv rt ct y u → Fp D4 578 (P * v + Q * a) (Q * v) → ((y = (rt u : Rat) ∧ low = u ∧ ap = 0) ∨ (y ≠ (rt u : Rat) ∧ low = (u : Int) - 1 ∧ ap = rt u - lz lv rt ((u : Int) - 1) ∧ und = rt u * T - W ∧ ov = W - lz lv rt ((u : Int) - 1) * T)) →
      Sg g M_Sp_splitGroup (rV (fun D' => (∃ a v : Int, (0 ≤ a ∧ a ≤ 2 ^ 43) ∧ (1 ≤ v ∧ v ≤ 10000) ∧ (a : Rat) / (v : Rat) = (T : Rat) * cper lv rt ct y u ∧ Fp D' 578 (P * v + Q * a) (Q * v)) ∧ GI D3 n lv rt w y u k D')) 157 [vR 573, vR 457, vI k, vR 1, vU, vI u, vU, vL W, vU, vL T, vU, vL und, vU, vI low, vI ap, vL ov, vU, vU] [] D4 := fun D4 a v low ap und ov F ha hv hav hf hc => by
    have j4 : JC D4 n r d w pl := h0.fr F (by omega)
    refine s_Sp_splitGroup_157 (zg_post (sgroup_loop (D1 := D4) f j4 hW hT hy lf hu hc n 0 D4 (by omega) ⟨fun _ _ _ _ => rfl, fun j hj => ⟨fun q => by omega, fun _ => ⟨rfl, rfl, fun _ _ _ => rfl⟩⟩⟩) ?_)
    rintro _ _ D' ⟨rfl, rfl, q⟩
    refine ⟨rfl, rfl, ⟨a, v, ha, hv, hav, ?_⟩, fun c c1 c2 c3 => ?_, fun j hj => ?_⟩
    · exact ⟨hf.1.of (q.1 _ (by omega) (by omega) (by omega)) (q.1 _ (by omega) (by omega) (by omega)), hf.2.of (q.1 _ (by omega) (by omega) (by omega)) (q.1 _ (by omega) (by omega) (by omega))⟩
    · rw [q.1 c c1 c2 (by omega), F c (by omega) (by omega)]
    · have e461 : D4 461 = D3 461 := F 461 (by omega) (by omega)
      have z := q.2 j hj
      rw [e461] at z
      refine ⟨fun t => z.1 ⟨t, hj⟩, fun t => ?_⟩
      have z2 := z.2 fun s => t s.1
      have hn := f.1
      refine ⟨z2.1.trans (by rw [F 574 (by omega) (by omega)]), z2.2.1.trans (by rw [F 575 (by omega) (by omega)]), fun c c1 c2 => (z2.2.2 c c1 c2).trans (F c (by omega) (by omega))⟩
  refine s_Sp_splitGroup_34 ⟨⟨by unfold R64; omega, by unfold R64; omega⟩, fun q => ⟨by unfold R32; omega, ?_⟩, fun q => ?_⟩
  · have ye : y ≠ (rt u : Rat) := fun e => q (ee.mp e)
    have l := hu.lo y0
    have hh := hu.hi ye
    have l2 : lz lv rt ((u : Int) - 1) * T < W := by
      rw [hy, Rat.lt_div_iff t0, ← Rat.intCast_mul] at l
      exact Rat.intCast_lt_intCast.mp l
    have h2 : W < rt u * T := by
      rw [hy, Rat.div_lt_iff t0, ← Rat.intCast_mul] at hh
      exact Rat.intCast_lt_intCast.mp hh
    have ap0 : lz lv rt ((u : Int) - 1) < rt u := Rat.intCast_lt_intCast.mp (by grind)
    refine s_Sp_splitGroup_59 ((rateOf_ok lf lc).mono fun v D4 r4 => ?_)
    obtain ⟨rfl, rfl⟩ := r4
    refine s_Sp_splitGroup_68 ((rateOf_ok lf lc).mono fun v D5 r5 => ?_)
    obtain ⟨rfl, rfl⟩ := r5
    rw [lz_at u8]
    refine s_Sp_splitGroup_75 ⟨by unfold R32; omega, (rateOf_ok lf lc).mono fun v D6 r6 => ?_⟩
    obtain ⟨rfl, rfl⟩ := r6
    refine s_Sp_splitGroup_87 ⟨⟨by unfold R64; omega, by unfold R64; omega⟩, fun _ => (costOf_ok lf lc).mono fun v D7 r7 => ?_, fun q => by omega⟩
    obtain ⟨rfl, rfl⟩ := r7
    have p1 : 0 ≤ lz lv ct ((u : Int) - 1) * (rt u * T - W) := Int.mul_nonneg lcb.1 (by omega)
    have p2 : lz lv ct ((u : Int) - 1) * (rt u * T - W) ≤ 1000000 * 2000000 := Int.mul_le_mul lcb.2 (by omega) (by omega) (by decide)
    have p3 : 0 ≤ ct u * (W - lz lv rt ((u : Int) - 1) * T) := Int.mul_nonneg cb.1 (by omega)
    have p4 : ct u * (W - lz lv rt ((u : Int) - 1) * T) ≤ 1000000 * 12000 := Int.mul_le_mul cb.2 (by omega) (by omega) (by decide)
    refine s_Sp_splitGroup_136 ⟨by unfold R64; omega, (costOf_ok lf lc).mono fun v D8 r8 => ?_⟩
    obtain ⟨rfl, rfl⟩ := r8
    rw [lz_at u8]
    have bd := add_bd (a := lz lv ct ((u : Int) - 1) * (rt u * T - W) + ct u * (W - lz lv rt ((u : Int) - 1) * T)) (v := rt u - lz lv rt ((u : Int) - 1)) hP hQ (by omega) (by omega)
    refine s_Sp_splitGroup_147 ⟨⟨by unfold R64; omega, by unfold R64; omega⟩, (reAdd_ok (a := 578) (by decide +kernel) hp (by omega) (by omega) hQ.1 bd.1 bd.2.1 bd.2.2.1 bd.2.2.2).mono fun D9 r9 => ?_⟩
    refine tail D9 _ _ _ _ _ _ r9.2 (by omega) (by omega) ?_ r9.1 (Or.inr ⟨ye, rfl, rfl, rfl, rfl⟩)
    unfold cper
    rw [if_neg ye, hy, Rat.intCast_add, Rat.intCast_mul, Rat.intCast_mul, Rat.intCast_sub, Rat.intCast_sub, Rat.intCast_mul, Rat.intCast_mul, Rat.intCast_sub]
    have n2 : (rt u : Rat) - (lz lv rt ((u : Int) - 1) : Rat) ≠ 0 := by grind
    generalize (lz lv ct ((u : Int) - 1) : Rat) = cl
    generalize (lz lv rt ((u : Int) - 1) : Rat) = lo at *
    generalize (rt u : Rat) = hi at *
    generalize (ct u : Rat) = cu
    generalize (T : Rat) = t at *
    generalize (W : Rat) = v at *
    clear tail ee hu
    generalize hi - lo = ap at *
    have n3 : t ≠ 0 := by grind
    grind
  · have ye : y = (rt u : Rat) := ee.mpr q
    refine s_Sp_splitGroup_59 ((rateOf_ok lf lc).mono fun v D4 r4 => ?_)
    obtain ⟨rfl, rfl⟩ := r4
    refine s_Sp_splitGroup_68 ((rateOf_ok lf lc).mono fun v D5 r5 => ?_)
    obtain ⟨rfl, rfl⟩ := r5
    rw [lz_at u8]
    refine s_Sp_splitGroup_75 ⟨by unfold R32; omega, (rateOf_ok lf lc).mono fun v D6 r6 => ?_⟩
    obtain ⟨rfl, rfl⟩ := r6
    rw [lz_at u8]
    refine s_Sp_splitGroup_87 ⟨⟨by unfold R64; omega, by unfold R64; omega⟩, fun q => by omega, fun _ => (costOf_ok lf lc).mono fun v D7 r7 => ?_⟩
    obtain ⟨rfl, rfl⟩ := r7
    rw [lz_at u8]
    have p1 : 0 ≤ ct u * T := Int.mul_nonneg cb.1 (by omega)
    have p2 : ct u * T ≤ 1000000 * 200 := Int.mul_le_mul cb.2 hT.2 (by omega) (by decide)
    have bd := add_bd (a := ct u * T) (v := 1) hP hQ (by omega) (by omega)
    refine s_Sp_splitGroup_112 ⟨by unfold R64; omega, (reAdd_ok (a := 578) (by decide +kernel) hp (by omega) (by omega) hQ.1 bd.1 bd.2.1 bd.2.2.1 bd.2.2.2).mono fun D9 r9 => s_Sp_splitGroup_120 ?_⟩
    refine tail D9 _ _ _ _ _ _ r9.2 (by omega) (by omega) ?_ r9.1 (Or.inl ⟨ye, rfl, by omega⟩)
    unfold cper
    rw [if_pos ye, Rat.intCast_mul, show ((1 : Int) : Rat) = 1 from rfl, Rat.div_def]
    grind
end SPLIT3
