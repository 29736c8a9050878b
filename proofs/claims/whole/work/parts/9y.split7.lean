/-! split: the model, put together -/
def rowsO (m : Int) : Prop := (0 ≤ m ∧ m < 168) ∨ (216 ≤ m ∧ m < 220)
def FMS (D D' : DD) : Prop := (∀ c, c ≠ 708 → c ≠ 709 → c ≠ 710 → c ≠ 731 → c ≠ 732 → D' c = D c) ∧ (∀ k : Int, k ≠ 0 → k ≠ 12 → D' 708 k = D 708 k) ∧ RK rowsO D D'
def mcost (lv : Nat) (rt ct w : Nat → Int) (Y : Nat → Rat) (V : Nat → Nat) (j : Nat) : Rat := (w j : Rat) / Y j * cper lv rt ct (Y j) (V j)
section SPLIT7
variable {g : GG} {D D' D'' D0 D1 : DD} {n lv : Nat} {r d w rt ct : Nat → Int} {pl : Nat → Nat} {x : Nat → Rat} {y S t : Rat} {u u' j : Nat}
theorem FMS.tr (h : FMS D D') (h' : FMS D' D'') : FMS D D'' := ⟨fun c c1 c2 c3 c4 c5 => (h'.1 c c1 c2 c3 c4 c5).trans (h.1 c c1 c2 c3 c4 c5), fun k k1 k2 => (h'.2.1 k k1 k2).trans (h.2.1 k k1 k2), h.2.2.tr h'.2.2⟩
theorem FMS.fm {lo hi lo2 hi2 : Int} (h : FM lo hi lo2 hi2 D D') (q : ∀ m, rowsO m → (m < lo ∨ hi ≤ m) ∧ (m < lo2 ∨ hi2 ≤ m)) : FMS D D' := ⟨fun c _ c2 c3 _ _ => h.1 c c2 c3, fun k _ _ => by rw [h.1 708 (by omega) (by omega)], h.rows.rk q⟩
theorem FMS.w0 {i v : Int} (hi : i = 0 ∨ i = 12) : FMS D (zw D 708 i v) := ⟨fun c c1 _ _ _ _ => zw_off c1, fun k k1 k2 => zw_ne (Or.inr (by omega)), RK.off (zw_off (by omega)) (zw_off (by omega))⟩
theorem FMS.fo (h : FOJ j D D') (hj : j < 12) : FMS D D' := ⟨fun c _ c2 c3 c4 c5 => h.1 c c2 c3 c4 c5, fun k _ _ => by rw [h.1 708 (by omega) (by omega) (by omega) (by omega)], h.2.2.sub fun m hm => by unfold rowsO at hm; unfold rowsJ; omega⟩
theorem MSJ.fo {i : Nat} (h : MSJ D lv rt w y u i) (f : FOJ j D D') (hj : i ≠ j) (hi : i < 12) (hj2 : j < 12) : MSJ D' lv rt w y u i :=
  ⟨((f.2.1 i (by omega)).1).trans h.1, ((f.2.1 i (by omega)).2).trans h.2.1, h.2.2.1.rk f.2.2 ⟨by unfold rowsJ; omega, by unfold rowsJ; omega⟩, h.2.2.2.rk f.2.2 ⟨by unfold rowsJ; omega, by unfold rowsJ; omega⟩⟩
theorem upl_ex : ∀ k : Nat, k ≤ lv → (∃ i, i < k ∧ y ≤ (rt i : Rat)) → ∃ u, UPL lv rt y u := by
  intro k
  induction k with
  | zero => rintro _ ⟨i, h, _⟩; omega
  | succ k ih =>
    rintro hk ⟨i, hi, h⟩
    rcases Classical.em (∃ i, i < k ∧ y ≤ (rt i : Rat)) with z | z
    · exact ih (by omega) z
    · have e : i = k := Decidable.byContradiction fun q => z ⟨i, by omega, h⟩
      subst e
      exact ⟨i, by omega, h, fun m hm => Rat.not_le.mp fun q => z ⟨m, hm, q⟩⟩
theorem LF.mono (f : LF lv rt ct) : ∀ (m i : Nat), i + m < lv → rt i ≤ rt (i + m) := by
  intro m
  induction m with
  | zero => intro i _; exact Int.le_refl _
  | succ m ih =>
    intro i h
    have a := ih i (by omega)
    have b := f.2.2 (i + m) (by omega)
    rw [show i + (m + 1) = i + m + 1 by omega]
    omega
theorem msplit_ok (f : JF n r d w pl) (jm : JM D n r d w) (lf : LF lv rt ct) (lm : LM D lv rt ct) (h10 : D 708 10 ≠ 0) {Y : Nat → Rat} (hY : ∀ j : Nat, j < n → D 720 j = (Y j).num ∧ D 721 j = (((Y j).den : Nat) : Int) ∧ (0 < (Y j).num ∧ (Y j).num ≤ 12000) ∧ (((Y j).den : Nat) : Int) ≤ 200) :
    CI g M_Mo_split [vR 708] D (fun v D' => D' 708 0 = 0 ∧ FMS D D' ∧ ((v = 0 ∧ D' 708 12 = 0 ∧ ∃ j, j < n ∧ ∀ i, i < lv → (rt i : Rat) < Y j) ∨
      (v = 1 ∧ D' 708 12 = 1 ∧ ∃ V : Nat → Nat, (∀ j, j < n → UPL lv rt (Y j) (V j)) ∧ (∀ j, j < n → MSJ D' lv rt w (Y j) (V j) j) ∧ Mq D' 110 (su (mcost lv rt ct w Y V) n)))) := by
  have hn := f.1
  have lv8 := lf.1
  have yd : ∀ j : Nat, j < n → Y j = ((Y j).num : Rat) / ((((Y j).den : Nat) : Int) : Rat) ∧ (0 : Int) < (((Y j).den : Nat) : Int) := fun j _ => ⟨rat_nd, by have := (Y j).den_pos; omega⟩
  refine CI.intro mc_Mo_split (Nat.le_of_ble_eq_true rfl) rfl (s_Mo_split_0 ⟨fun q => absurd q h10, fun _ => s_Mo_split_13 fun D1 e1 => ⟨fun _ D4 e4 => ?_, fun q => by rw [e1, zw_eq] at q; omega⟩⟩)
  have F4 : FMS D D4 := by
    rw [e4]
    refine FMS.tr (D' := D1) ?_ (FMS.w0 (Or.inr rfl))
    rw [e1]; exact FMS.w0 (Or.inl rfl)
  have z12 : D4 708 12 = 0 := by rw [e4, zw_eq]
  have z0 : D4 708 0 = 0 := by rw [e4, zw_ne (Or.inr (by omega)), e1, zw_eq]
  have h3 : D4 708 3 = n := by rw [F4.2.1 3 (by omega) (by omega)]; exact jm.1
  have h7 : D4 708 7 = lv := by rw [F4.2.1 7 (by omega) (by omega)]; exact lm.1
  have o4 : ∀ c, c ≠ 708 → D4 c = D c := fun c hc => by rw [e4, zw_off hc, e1, zw_off hc]
  clear e1 e4
  -- the second walk
  have second : ∀ V : Nat → Nat, (∀ j, j < n → UPL lv rt (Y j) (V j)) → ∀ (m k : Nat) (D' : DD), k + m = n → FMS D D' → D' 708 0 = 0 → (∀ j, j < k → MSJ D' lv rt w (Y j) (V j) j) → Mq D' 112 (su (mcost lv rt ct w Y V) k) → SB (2 * k) (su (mcost lv rt ct w Y V) k) →
      Sg g M_Mo_split (rI (fun v D' => D' 708 0 = 0 ∧ FMS D D' ∧ ((v = 0 ∧ D' 708 12 = 0 ∧ ∃ j, j < n ∧ ∀ i, i < lv → (rt i : Rat) < Y j) ∨
      (v = 1 ∧ D' 708 12 = 1 ∧ ∃ V : Nat → Nat, (∀ j, j < n → UPL lv rt (Y j) (V j)) ∧ (∀ j, j < n → MSJ D' lv rt w (Y j) (V j) j) ∧ Mq D' 110 (su (mcost lv rt ct w Y V) n))))) 102 [vR 708, vI k] [] D' := by
    intro V hV m
    induction m with
    | zero =>
      intro k D' hm F0 q0 hI hs sb
      obtain rfl : k = n := by omega
      have e3 : D' 708 3 = k := by rw [F0.2.1 3 (by omega) (by omega)]; exact jm.1
      refine s_Mo_split_102 ⟨fun _ => (mkeep_ok (f := 112) (h := 110) (by omega) (by omega) (by omega) hs).mono fun D2 r2 => s_Mo_split_129 fun D3 e3 => retI ?_, fun q => by omega⟩
      obtain ⟨a1, a2⟩ := r2
      have o3 : ∀ c, c ≠ 708 → D3 c = D2 c := fun c hc => by rw [e3, zw_off hc]
      have a1' : Mq D2 110 (su (mcost lv rt ct w Y V) k) := a1
      refine ⟨by rw [e3, zw_ne (Or.inr (by omega)), a2.1 708 (by omega) (by omega)]; exact q0, F0.tr ((FMS.fm a2 fun m hm => by unfold rowsO at hm; omega).tr (by rw [e3]; exact FMS.w0 (Or.inr rfl))), Or.inr ⟨rfl, by rw [e3, zw_eq], V, hV, fun j hj => ?_, a1'.off (o3 709 (by omega)) (o3 710 (by omega))⟩⟩
      obtain ⟨b1, b2, b3, b4⟩ := hI j hj
      refine ⟨by rw [o3 731 (by omega), a2.1 731 (by omega) (by omega)]; exact b1, by rw [o3 732 (by omega), a2.1 732 (by omega) (by omega)]; exact b2, (b3.fm a2 (by omega)).off (o3 709 (by omega)) (o3 710 (by omega)), (b4.fm a2 (by omega)).off (o3 709 (by omega)) (o3 710 (by omega))⟩
    | succ m ih =>
      intro k D' hm F0 q0 hI hs sb
      have e3 : D' 708 3 = n := by rw [F0.2.1 3 (by omega) (by omega)]; exact jm.1
      have oc : ∀ c, c ≠ 708 → c ≠ 709 → c ≠ 710 → c ≠ 731 → c ≠ 732 → D' c = D c := F0.1
      have lm2 : LM D' lv rt ct := lm.kp (F0.2.1 7 (by omega) (by omega)) fun c c1 c2 => oc c (by omega) (by omega) (by omega) (by omega) (by omega)
      have hy := hY k (by omega)
      have yk := yd k (by omega)
      refine s_Mo_split_102 ⟨fun q => by omega, fun _ => (splitOne_ok (w := w) lf lm2 (show k < 12 by omega) (by rw [oc 713 (by omega) (by omega) (by omega) (by omega) (by omega)]; exact (jm.2 k (by omega)).2.2) (f.2.2.1 k (by omega)) (by rw [oc 720 (by omega) (by omega) (by omega) (by omega) (by omega)]; exact hy.1) (by rw [oc 721 (by omega) (by omega) (by omega) (by omega) (by omega)]; exact hy.2.1) hy.2.2.1 ⟨yk.2, hy.2.2.2⟩ yk.1 (hV k (by omega)) (i := k) (by omega) hs sb).mono fun D2 r2 => s_Mo_split_115 ⟨by unfold R32; omega, ?_⟩⟩
      obtain ⟨a1, a2, a3, a4⟩ := r2
      refine ih (k + 1) D2 (by omega) (F0.tr (FMS.fo a1 (by omega))) (by rw [a1.1 708 (by omega) (by omega) (by omega) (by omega)]; exact q0) (fun j hj => ?_) a3 a4
      rcases (show j = k ∨ j < k by omega) with z | z
      · subst z; exact a2
      · exact (hI j z).fo a1 (by omega) (by omega) (by omega)
  -- the first walk
  have first : ∀ (m k : Nat), k + m = n → (∀ j, j < k → ∃ i, i < lv ∧ Y j ≤ (rt i : Rat)) → Sg g M_Mo_split (rI (fun v D' => D' 708 0 = 0 ∧ FMS D D' ∧ ((v = 0 ∧ D' 708 12 = 0 ∧ ∃ j, j < n ∧ ∀ i, i < lv → (rt i : Rat) < Y j) ∨
      (v = 1 ∧ D' 708 12 = 1 ∧ ∃ V : Nat → Nat, (∀ j, j < n → UPL lv rt (Y j) (V j)) ∧ (∀ j, j < n → MSJ D' lv rt w (Y j) (V j) j) ∧ Mq D' 110 (su (mcost lv rt ct w Y V) n))))) 32 [vR 708, vI k] [] D4 := by
    intro m
    induction m with
    | zero =>
      intro k hm hI
      obtain rfl : k = n := by omega
      refine s_Mo_split_32 ⟨fun _ => (mset_ok (n := 224) (by omega) (x := 0) (by omega)).mono fun D5 r5 => s_Mo_split_92 ((mset_ok (n := 225) (by omega) (x := 1) (by omega)).mono fun D6 r6 => s_Mo_split_100 ?_), fun q => by omega⟩
      obtain ⟨V, hV⟩ : ∃ V : Nat → Nat, ∀ j, j < k → UPL lv rt (Y j) (V j) := by
        have ex : ∀ j, ∃ u, j < k → UPL lv rt (Y j) u := fun j => by
          by_cases z : j < k
          · obtain ⟨u, hu⟩ := upl_ex lv (Nat.le_refl lv) (hI j z)
            exact ⟨u, fun _ => hu⟩
          · exact ⟨0, fun q => absurd q z⟩
        exact ⟨fun j => Classical.choose (ex j), fun j hj => Classical.choose_spec (ex j) hj⟩
      have f6 : FM 224 225 225 226 D4 D6 := (FM.f1 (lo := 224) (hi := 225) (lo2 := 225) (hi2 := 226) r5.2 (by omega)).tr (FM.f1 r6.2 (by omega))
      refine second V hV k 0 D6 (by omega) (F4.tr (FMS.fm f6 fun m hm => by unfold rowsO at hm; omega)) (by rw [f6.1 708 (by omega) (by omega)]; exact z0) (fun j hj => by omega) ⟨r5.1.f1 r6.2 (by omega), r6.1⟩ ⟨1, 0, by omega, by decide, by omega, by decide, ?_⟩
      show (0 : Rat) * _ = _
      rw [Rat.zero_mul]; rfl
    | succ m ih =>
      intro k hm hI
      have hy := hY k (by omega)
      have yk := yd k (by omega)
      have q0 : (0 : Rat) < ((((Y k).den : Nat) : Int) : Rat) := Rat.intCast_pos.mpr yk.2
      refine s_Mo_split_32 ⟨fun q => by omega, fun _ => ⟨fun q => retI ⟨z0, F4, Or.inl ⟨rfl, z12, k, by omega, fun i hi => by omega⟩⟩, fun q => ?_⟩⟩
      rw [h7] at q ⊢
      have el : (lv : Int) - 1 = ((lv - 1 : Nat) : Int) := by omega
      have e714 : D4 714 ((lv : Int) - 1) = rt (lv - 1) := by rw [el, o4 714 (by omega)]; exact (lm.2 (lv - 1) (by omega)).1
      rw [e714, o4 720 (by omega), o4 721 (by omega), hy.1, hy.2.1]
      have rb := (lf.2.1 (lv - 1) (by omega)).1
      have m1 : 0 ≤ rt (lv - 1) * (((Y k).den : Nat) : Int) := Int.mul_nonneg (by omega) (by omega)
      have m2 : rt (lv - 1) * (((Y k).den : Nat) : Int) ≤ 10000 * 200 := Int.mul_le_mul rb.2 hy.2.2.2 (by omega) (by decide)
      refine ⟨⟨by omega, by unfold R32; omega, by omega, by omega, by unfold R64; omega⟩, fun q2 => ⟨by unfold R32; omega, ih (k + 1) (by omega) fun j hj => ?_⟩, fun q2 => retI ⟨z0, F4, Or.inl ⟨rfl, z12, k, by omega, fun i hi => ?_⟩⟩⟩
      · rcases (show j = k ∨ j < k by omega) with z | z
        · subst z
          refine ⟨lv - 1, by omega, Rat.not_lt.mp fun z => ?_⟩
          rw [yk.1, Rat.lt_div_iff q0, ← Rat.intCast_mul] at z
          have := Rat.intCast_lt_intCast.mp z
          omega
        · exact hI j z
      · have mo := lf.mono (lv - 1 - i) i (by omega)
        rw [show i + (lv - 1 - i) = lv - 1 by omega] at mo
        have lt : ((rt (lv - 1) : Int) : Rat) < Y k := by
          rw [yk.1, Rat.lt_div_iff q0, ← Rat.intCast_mul]
          exact Rat.intCast_lt_intCast.mpr (by omega)
        have le : ((rt i : Int) : Rat) ≤ (rt (lv - 1) : Rat) := Rat.intCast_le_intCast.mpr mo
        grind
  exact first n 0 (by omega) fun j hj => by omega
end SPLIT7
