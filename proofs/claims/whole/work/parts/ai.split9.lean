/-! split and step once more: the cell out stays -/
section SPLIT9
variable {g : GG} {D D' D'' D0 D1 : DD} {a b c : Int}
theorem INV.w734 (h : INV D) {i v : Int} : INV (zw D 734 i v) := h.kp ⟨fun c hc => zw_off (by omega), fun k _ _ => by rw [zw_off (by omega)], RK.off (zw_off (by omega)) (zw_off (by omega))⟩ fun t => t.kp (by rw [zw_off (by omega)]) (zw_off (by omega)) (by rw [zw_off (by omega)]) (zw_off (by omega))
theorem pr_split2 (h : INV D) (z : D 9 0 ≠ 0) : CI g M_Sp_workOut [vR 573, vR 1, vR 6, vR 457, vR 391] D (fun v D1 => (v = 0 ∨ v = 1) ∧ ∀ D3, (∀ c, c < 734 → D3 c = D1 c) → CI g M_Mo_split [vR 708] D3 (fun v' D2 => v' = v ∧ D2 708 0 = 0 ∧ D2 734 = D3 734 ∧ INV D2)) := by
  obtain ⟨t0, n, r, d, w, pl, lv, rt, ct, i1, i2, i3, i4, i5⟩ := h.inc
  have f := i1.1
  have hn := f.1
  obtain ⟨m10, x, L, sz, ⟨G, g1, g2, cc, g4, g5⟩, _, _, _, _, js⟩ := i2.both f z
  refine (spWorkOut_ok f i1.2.1 i1.2.2.2.1 i1.2.2.2.2.1 g2 g1 cc).mono fun v D1 r1 => ?_
  obtain ⟨F0, r1⟩ := r1
  refine ⟨by rcases r1 with ⟨e, _⟩ | ⟨e, _⟩ <;> omega, fun D3 hD => ?_⟩
  have F1 : ∀ c, c ≠ 573 → ((c < 391 ∨ (457 ≤ c ∧ c < 574) ∨ 703 ≤ c) ∧ c < 734) → D3 c = D c := fun c c1 c2 => by rw [hD c (by omega)]; exact F0 c c1 (by omega)
  have jm1 : JM D3 n r d w := i1.2.2.1.kp (by rw [F1 708 (by omega) (by omega)]) fun c _ _ => F1 c (by omega) (by omega)
  have lm1 : LM D3 lv rt ct := i1.2.2.2.2.2.kp (by rw [F1 708 (by omega) (by omega)]) fun c _ _ => F1 c (by omega) (by omega)
  have hY : ∀ j : Nat, j < n → D3 720 j = (sdk (D 458) (D 459) (D 461 j)).num ∧ D3 721 j = (((sdk (D 458) (D 459) (D 461 j)).den : Nat) : Int) ∧ (0 < (sdk (D 458) (D 459) (D 461 j)).num ∧ (sdk (D 458) (D 459) (D 461 j)).num ≤ 12000) ∧ (((sdk (D 458) (D 459) (D 461 j)).den : Nat) : Int) ≤ 200 := fun j hj => by
    obtain ⟨j1, j2, y, y1, y2, y3, y4, y5, y6⟩ := js j hj
    rw [F1 720 (by omega) (by omega), F1 721 (by omega) (by omega), ← y6]
    have wb := cc.Wb hn f.2.2.1 (k := D 461 j) j1 (by omega)
    have tb := cc.Tb (k := D 461 j) j1 (by omega)
    have le := low_le (p := D 458 (D 461 j)) (q := D 459 (D 461 j)) (by omega) tb.1
    have ye : (D 458 (D 461 j) : Rat) / (D 459 (D 461 j) : Rat) = y := y6.symm
    rw [ye] at le
    have p0 := cc.sp0 (k := D 461 j) j1 (by omega)
    rw [← y6] at p0
    have : 0 < y.num := by
      have nn := Rat.num_nonneg.mpr (Rat.le_of_lt p0)
      refine Decidable.byContradiction fun q => ?_
      have e := rat_nd (x := y)
      rw [show y.num = 0 by omega, show ((0 : Int) : Rat) = 0 from rfl, Rat.div_def, Rat.zero_mul] at e
      rw [e] at p0
      exact Rat.lt_irrefl p0
    exact ⟨y4, y5, ⟨this, by omega⟩, by omega⟩
  refine (msplit_ok (Y := fun j => sdk (D 458) (D 459) (D 461 j)) f jm1 i1.2.2.2.1 lm1 (by rw [F1 708 (by omega) (by omega)]; omega) hY).mono fun v' D2 r2 => ?_
  obtain ⟨z0, F2, r2⟩ := r2
  -- all but the split
  have oc : ∀ c, c ≠ 573 → (c < 391 ∨ (457 ≤ c ∧ c < 574) ∨ (703 ≤ c ∧ c < 708) ∨ (711 ≤ c ∧ c < 731) ∨ c = 733) → D2 c = D c := fun c c1 c2 => by rw [F2.1 c (by omega) (by omega) (by omega) (by omega) (by omega), F1 c c1 (by omega)]
  have ok : ∀ k : Int, k ≠ 0 → k ≠ 12 → D2 708 k = D 708 k := fun k k1 k2 => by rw [F2.2.1 k k1 k2, F1 708 (by omega) (by omega)]
  have rk : RK rowsO D D2 := RK.tr (RK.off (F1 709 (by omega) (by omega)) (F1 710 (by omega) (by omega))) F2.2.2
  have e573 : D2 573 = D1 573 := (F2.1 573 (by omega) (by omega) (by omega) (by omega) (by omega)).trans (hD 573 (by omega))
  have e734 : D2 734 = D3 734 := F2.1 734 (by omega) (by omega) (by omega) (by omega) (by omega)
  have fin : ISp D2 n → INV D2 := fun sp => INC.inv (n := n) (lv := lv) (r := r) (d := d) (w := w) (pl := pl) (rt := rt) (ct := ct) ⟨i1.kp (fun c hc => oc c (by omega) (by omega)) (ok _ (by omega) (by omega)) (ok _ (by omega) (by omega)), i2.kp hn (fun c hc => oc c (by omega) (by omega)) (ok _ (by omega) (by omega)) (ok _ (by omega) (by omega)) (rk.sub fun m hm => by unfold rowsL at hm; unfold rowsO; omega), i3.kp hn (fun c hc => oc c (by omega) (by omega)) (ok _ (by omega) (by omega)) (ok _ (by omega) (by omega)) (rk.sub fun m hm => by unfold rowsA at hm; unfold rowsO; omega), sp, i5.kp fun c _ _ => oc c (by omega) (by omega)⟩ (t0.kp (by rw [oc 703 (by omega) (by omega)]) (oc 704 (by omega) (by omega)) (ok 33 (by omega) (by omega)) (oc 733 (by omega) (by omega)))
  rcases r1 with ⟨rfl, q573, k, hk, no⟩ | ⟨rfl, q573, U, hU, hS, zz, fz, bz, ez⟩
  · rcases r2 with ⟨rfl, q12, _⟩ | ⟨rfl, q12, V, hV, _⟩
    · exact ⟨rfl, z0, e734, fin (Or.inl ⟨by rw [e573]; exact q573, q12⟩)⟩
    · exfalso
      have ex : ∃ j, j < n ∧ D 461 j = k := by
        refine Classical.byContradiction fun q => ?_
        have wd := cc.Wd k (by omega) (by omega)
        rw [sp_no (P := fun j => gjD D j = k) (fun j hj e => q ⟨j, hj, e⟩)] at wd
        have p := Rat.intCast_pos.mpr (cc.pos k (by omega) (by omega)).1
        rw [wd] at p
        exact Rat.lt_irrefl p
      obtain ⟨j, hj, ej⟩ := ex
      have u := hV j hj
      rw [ej] at u
      exact absurd (no _ u.1) (Rat.not_lt.mpr u.2.1)
  · rcases r2 with ⟨rfl, q12, j, hj, no⟩ | ⟨rfl, q12, V, hV, hM, mz⟩
    · exfalso
      obtain ⟨j1, j2, _⟩ := js j hj
      have u := hU (D 461 j).toNat (by omega)
      rw [Int.toNat_of_nonneg j1] at u
      exact absurd (no _ u.1) (Rat.not_lt.mpr u.2.1)
    · have same : ∀ j, j < n → V j = U (D 461 j).toNat := fun j hj => by
        obtain ⟨j1, j2, _⟩ := js j hj
        have u := hU (D 461 j).toNat (by omega)
        rw [Int.toNat_of_nonneg j1] at u
        exact (hV j hj).unique u
      have costs : su (mcost lv rt ct w (fun j => sdk (D 458) (D 459) (D 461 j)) V) n = zz := by
        have bg := by_groups cc (fun k => cper lv rt ct (sdk (D 458) (D 459) k) (U k.toNat)) G (Int.le_refl _)
        rw [sp_all (fun j hj => (cc.gj0 j hj).2)] at bg
        rw [ez]
        have e1 : su (fun k : Nat => (D 459 k : Rat) * cper lv rt ct (sdk (D 458) (D 459) k) (U k)) G = su (fun k : Nat => (D 459 k : Rat) * (fun k : Int => cper lv rt ct (sdk (D 458) (D 459) k) (U k.toNat)) k) G := su_congr fun k hk => by
          show _ = (D 459 k : Rat) * cper lv rt ct (sdk (D 458) (D 459) k) (U ((k : Int)).toNat)
          rw [Int.toNat_natCast]
        rw [e1, bg]
        exact su_congr fun j hj => by
          show (w j : Rat) / sdk (D 458) (D 459) (D 461 j) * cper lv rt ct (sdk (D 458) (D 459) (D 461 j)) (V j) = _
          rw [same j hj]
          rfl
      have lf := i1.2.2.2.1
      refine ⟨rfl, z0, e734, fin (Or.inr ⟨by rw [e573]; exact q573, q12, fun j hj => ?_, zz, fz.cells fun c _ _ => (F2.1 c (by omega) (by omega) (by omega) (by omega) (by omega)).trans (hD c (by omega)), by rw [← costs]; exact mz, bz⟩)⟩
      have o : ∀ c, 574 ≤ c → c < 703 → D2 c = D1 c := fun c _ _ => (F2.1 c (by omega) (by omega) (by omega) (by omega) (by omega)).trans (hD c (by omega))
      obtain ⟨s1, s2, s3, s4⟩ := hS j hj
      obtain ⟨t1, t2, t3, t4⟩ := hM j hj
      have hy := hY j hj
      have dp : (0 : Int) < (((sdk (D 458) (D 459) (D 461 j)).den : Nat) : Int) := by have := (sdk (D 458) (D 459) (D 461 j)).den_pos; omega
      have bb := parts_tb lf (hV j hj) hy.2.2.1 ⟨dp, hy.2.2.2⟩ (f.2.2.1 j hj) rat_nd (c := 0) (by omega)
      rw [same j hj] at t1 t2 t3 t4 bb
      refine ⟨?_, ?_, ⟨_, s3.cells fun c _ _ => o c (by omega) (by omega), t3, bb.2.2.1⟩, ⟨_, s4.cells fun c _ _ => o c (by omega) (by omega), t4, bb.2.2.2⟩⟩
      · rw [o 574 (by omega) (by omega), s1, t1]
      · rw [o 575 (by omega) (by omega), s2, t2]
theorem mstep_ok2 (h : INV D) : CI g M_Mo_step [vR 708, vI a, vI b, vI c] D (fun v D2 => D2 708 0 = stepT D a b c ∧ (stepT D a b c = 0 → v = stepV D a b c) ∧ D2 734 = D 734 ∧ INV D2) := by
  obtain ⟨t0, n, r, d, w, pl, lv, rt, ct, i1, i2, i3, i4, i5⟩ := h.inc
  have bad : ∀ t : Int, stepT D a b c = t → t = 1 ∨ t = 2 → Sg g M_Mo_step (rI (fun v D2 => D2 708 0 = stepT D a b c ∧ (stepT D a b c = 0 → v = stepV D a b c) ∧ D2 734 = D 734 ∧ INV D2)) 82 [vR 708, vI a, vI b, vI c] [vI t, vR 708] D := fun t e ht => by
    refine s_Mo_step_82 fun D1 e1 => ⟨fun q => by rw [e1, zw_eq] at q; omega, fun _ => retI ⟨by rw [e1, zw_eq, e], fun q => by omega, by rw [e1, zw_off (by omega)], by rw [e1]; exact h.w0⟩⟩
  have good : stepT D a b c = 0 → (a = 0 ∨ a = 1) → (c = 0 ∨ c = 1) → (0 ≤ b ∧ b < 24) → (a = 0 → D 10 b = D 723 b ∧ D 11 b = D 724 b) → (a = 1 → D 201 b = D 728 b ∧ D 202 b = D 729 b) → Sg g M_Mo_step (rI (fun v D2 => D2 708 0 = stepT D a b c ∧ (stepT D a b c = 0 → v = stepV D a b c) ∧ D2 734 = D 734 ∧ INV D2)) 82 [vR 708, vI a, vI b, vI c] [vI 0, vR 708] D := fun e ha hc hb h0 h1 => by
    refine s_Mo_step_82 fun D1 e1 => ⟨fun _ => ?_, fun q => by rw [e1, zw_eq] at q; omega⟩
    have hi : INV D1 := by rw [e1]; exact h.w0
    have z : D1 708 0 = stepT D a b c := by rw [e1, zw_eq, e]
    have o : ∀ c, c ≠ 708 → D1 c = D c := fun c hc => by rw [e1, zw_off hc]
    refine ⟨fun q => ⟨fun q2 => ⟨hb, retI ⟨z, fun _ => ?_, o 734 (by omega), hi⟩⟩, fun q2 => ⟨hb, retI ⟨z, fun _ => ?_, o 734 (by omega), hi⟩⟩⟩, fun q => ⟨fun q2 => ⟨hb, retI ⟨z, fun _ => ?_, o 734 (by omega), hi⟩⟩, fun q2 => ⟨hb, retI ⟨z, fun _ => ?_, o 734 (by omega), hi⟩⟩⟩⟩
    · rw [o 729 (by omega), ← (h1 (by omega)).2]; unfold stepV; rw [if_neg q, if_neg q2]
    · rw [o 728 (by omega), ← (h1 (by omega)).1]; unfold stepV; rw [if_neg q, if_pos q2]
    · rw [o 724 (by omega), ← (h0 q).2]; unfold stepV; rw [if_pos q, if_neg q2]
    · rw [o 723 (by omega), ← (h0 q).1]; unfold stepV; rw [if_pos q, if_pos q2]
  refine CI.intro mc_Mo_step (Nat.le_of_ble_eq_true rfl) rfl (s_Mo_step_0 (in_ok.mono fun v D2 r2 => ?_))
  obtain ⟨rfl, rfl⟩ := r2
  by_cases ha : 0 ≤ a ∧ a ≤ 1
  · rw [show (if 0 ≤ a ∧ a ≤ 1 then (1 : Int) else 0) = 1 from if_pos ha]
    refine s_Mo_step_7 ⟨fun q => by omega, fun _ => in_ok.mono fun v D3 r3 => ?_⟩
    obtain ⟨rfl, rfl⟩ := r3
    by_cases hc : 0 ≤ c ∧ c ≤ 1
    · rw [show (if 0 ≤ c ∧ c ≤ 1 then (1 : Int) else 0) = 1 from if_pos hc]
      have T : stepT D3 a b c = if (a = 0 ∧ D3 9 0 ≠ 0 ∧ 0 ≤ b ∧ b < D3 9 1) ∨ (a = 1 ∧ D3 200 0 ≠ 0 ∧ 0 ≤ b ∧ b < D3 200 1) then 0 else 1 := if_pos (by omega)
      refine s_Mo_step_16 ⟨fun _ => ⟨fun a0 => ?_, fun a0 => ?_⟩, fun q => by omega⟩
      · by_cases z : D3 200 0 = 0
        · have m11 : D3 708 11 = 0 := by rcases i3 with i | i; exact i.2; omega
          exact ⟨fun _ => s_Mo_step_81 (bad 1 (by rw [T, if_neg (by omega)]) (Or.inl rfl)), fun q => absurd m11 q⟩
        · obtain ⟨m11, x, _, ⟨fi, la, n', b', e', rt', _, pr, mp, _⟩, _⟩ := i3.both i1.1 z
          have n24 := pr.2.1
          refine ⟨fun q => by omega, fun _ => ?_⟩
          rw [mp.1]
          refine ⟨by unfold R32; omega, in_ok.mono fun v D4 r4 => ?_⟩
          obtain ⟨rfl, rfl⟩ := r4
          have e1 := pr.1
          by_cases u : 0 ≤ b ∧ b ≤ (n' : Int) - 1
          · rw [show (if 0 ≤ b ∧ b ≤ (n' : Int) - 1 then (1 : Int) else 0) = 1 from if_pos u]
            refine s_Mo_step_74 ⟨fun q => by omega, fun _ => good (by rw [T, if_pos (by omega)]) (by omega) (by omega) (by omega) (fun q => by omega) fun _ => ?_⟩
            obtain ⟨k, rfl⟩ : ∃ k : Nat, b = k := ⟨b.toNat, by omega⟩
            have p := pr.2.2 k (by omega)
            have m := mp.2.2 k (by omega)
            exact ⟨p.1.trans m.1.symm, p.2.1.trans m.2.1.symm⟩
          · rw [show (if 0 ≤ b ∧ b ≤ (n' : Int) - 1 then (1 : Int) else 0) = 0 from if_neg u]
            exact s_Mo_step_74 ⟨fun _ => s_Mo_step_81 (bad 1 (by rw [T, if_neg (by omega)]) (Or.inl rfl)), fun q => absurd rfl q⟩
      · by_cases z : D3 9 0 = 0
        · have m11 : D3 708 10 = 0 := by rcases i2 with i | i; exact i.2; omega
          exact ⟨fun _ => s_Mo_step_52 (bad 1 (by rw [T, if_neg (by omega)]) (Or.inl rfl)), fun q => absurd m11 q⟩
        · obtain ⟨m11, x, L, _, _, ⟨fi, la, n', b', e', rt', _, pr, mp, _⟩, _⟩ := i2.both i1.1 z
          have n24 := pr.2.1
          refine ⟨fun q => by omega, fun _ => ?_⟩
          rw [mp.1]
          refine ⟨by unfold R32; omega, in_ok.mono fun v D4 r4 => ?_⟩
          obtain ⟨rfl, rfl⟩ := r4
          have e1 := pr.1
          by_cases u : 0 ≤ b ∧ b ≤ (n' : Int) - 1
          · rw [show (if 0 ≤ b ∧ b ≤ (n' : Int) - 1 then (1 : Int) else 0) = 1 from if_pos u]
            refine s_Mo_step_45 ⟨fun q => by omega, fun _ => good (by rw [T, if_pos (by omega)]) (by omega) (by omega) (by omega) (fun _ => ?_) fun q => by omega⟩
            obtain ⟨k, rfl⟩ : ∃ k : Nat, b = k := ⟨b.toNat, by omega⟩
            have p := pr.2.2 k (by omega)
            have m := mp.2.2 k (by omega)
            exact ⟨p.1.trans m.1.symm, p.2.1.trans m.2.1.symm⟩
          · rw [show (if 0 ≤ b ∧ b ≤ (n' : Int) - 1 then (1 : Int) else 0) = 0 from if_neg u]
            exact s_Mo_step_45 ⟨fun _ => s_Mo_step_52 (bad 1 (by rw [T, if_neg (by omega)]) (Or.inl rfl)), fun q => absurd rfl q⟩
    · rw [show (if 0 ≤ c ∧ c ≤ 1 then (1 : Int) else 0) = 0 from if_neg hc]
      exact s_Mo_step_16 ⟨fun q => absurd rfl q, fun _ => s_Mo_step_19 (bad 2 (if_neg (by omega)) (Or.inr rfl))⟩
  · rw [show (if 0 ≤ a ∧ a ≤ 1 then (1 : Int) else 0) = 0 from if_neg ha]
    exact s_Mo_step_7 ⟨fun _ => s_Mo_step_19 (bad 2 (if_neg (by omega)) (Or.inr rfl)), fun q => absurd rfl q⟩
theorem thrown_ok : CI g M_Mo_thrown [vR 708] D (fun v D2 => v = D 708 0 ∧ D2 = D) := CI.intro mc_Mo_thrown (Nat.le_of_ble_eq_true rfl) rfl (s_Mo_thrown_0 (retI ⟨rfl, rfl⟩))
end SPLIT9
