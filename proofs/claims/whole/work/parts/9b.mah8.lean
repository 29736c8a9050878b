/-! the model: ahead -/
/-- what holds of the model's AHEAD -/
def AhM (D : DD) (n : Nat) (r d w : Nat → Int) (pl : Nat → Nat) (x : Nat → Rat) : Prop := MPF D 728 729 730 24 60 109 26 n r d w pl x
section MAH8
variable {g : GG} {D D0 : DD} {n : Nat} {r d w : Nat → Int} {pl : Nat → Nat} {x : Nat → Rat}
theorem ma_fill {Q : Option VV → EE → DD → Prop} (hk : ∀ D z1 z2 z3 z4, FR 730 731 730 731 D0 D → (∀ t : Nat, t < 200 → D 730 t = -1) → CV g M_Mo_set [vR 708, vI 242, vL 1] D (fun D' => Sg g M_Mo_ahead Q 45 [vR 708, z1, z2, z3, z4] [] D')) :
    ∀ (m t : Nat) (D : DD) (z2 z3 z4 : VV), t + m = 200 → FR 730 731 730 731 D0 D → (∀ u : Nat, u < t → D 730 u = -1) → Sg g M_Mo_ahead Q 17 [vR 708, vI t, z2, z3, z4] [] D := by
  intro m
  induction m with
  | zero =>
    intro t D z2 z3 z4 hm hF hI
    exact s_Mo_ahead_17 ⟨fun _ => hk D _ _ _ _ hF fun u hu => hI u (by omega), fun q => by omega⟩
  | succ m ih =>
    intro t D z2 z3 z4 hm hF hI
    refine s_Mo_ahead_17 ⟨fun q => by omega, fun _ => ⟨by omega, fun D4 e4 => ⟨by unfold R32; omega, ih (t + 1) D4 _ _ _ (by omega) (by rw [e4]; exact hF.tr (FR.w (by omega))) fun u hu => ?_⟩⟩⟩
    rcases (show u = t ∨ u < t by omega) with y | y
    · rw [y, e4, zw_eq]
    · rw [e4, zw_ne (Or.inr (by omega))]; exact hI u y
theorem ma_left (f : JF n r d w pl) (h0 : JM D0 n r d w) {Q : Option VV → EE → DD → Prop} (hk : ∀ D z1, FM 230 242 230 242 D0 D → (∀ j : Nat, j < n → Mn D (230 + (j : Int)) (w j)) → CI g M_Mo_lastDeadline [vR 708] D (fun v2 D' => Sg g M_Mo_ahead Q 81 [vR 708, z1, vU, vU, vU] [vI v2] D')) :
    ∀ (m j : Nat) (D : DD) (z2 z3 z4 : VV), j + m = n → FM 230 242 230 242 D0 D → (∀ i : Nat, i < j → Mn D (230 + (i : Int)) (w i)) → Sg g M_Mo_ahead Q 47 [vR 708, vI j, z2, z3, z4] [] D := by
  have hn := f.1
  intro m
  induction m with
  | zero =>
    intro j D z2 z3 z4 hm hF hI
    have e := h0.1
    rw [← hF.1 708 (by omega) (by omega)] at e
    exact s_Mo_ahead_47 ⟨fun _ => hk D _ hF fun i hi => hI i (by omega), fun q => by omega⟩
  | succ m ih =>
    intro j D z2 z3 z4 hm hF hI
    have jm : JM D n r d w := h0.of (by rw [hF.1 708 (by omega) (by omega)]) fun c c1 c2 => hF.1 c (by omega) (by omega)
    have e := jm.1
    have e3 := (jm.2 j (by omega)).2.2
    have wj := f.2.2.1 j (by omega)
    refine s_Mo_ahead_47 ⟨fun q => by omega, fun _ => ⟨⟨by unfold R32; omega, by omega⟩, ?_⟩⟩
    rw [e3]
    refine (mset_ok (n := 230 + (j : Int)) (by omega) (x := w j) (by omega)).mono fun D2 r2 => s_Mo_ahead_71 ⟨by unfold R32; omega, ih (j + 1) D2 _ _ _ (by omega) (hF.tr (FM.f1 r2.2 (by omega))) fun i hi => ?_⟩
    rcases (show i = j ∨ i < j by omega) with y | y
    · rw [y]; exact r2.1
    · exact (hI i y).f1 r2.2 (by omega)
theorem ma_cost {P : Int → DD → Prop} {n' : Nat} {b e : Nat → Nat} {rt : Nat → Rat} {L : Int} (s : SZ rt n' L) (hbe : ∀ i, i < n' → b i < e i ∧ e i ≤ 200) (hp : MPR D0 728 729 24 26 n' b e rt)
    (hk : ∀ D, FM 222 226 244 253 D0 D → Mq D 112 (su (fun i => cub rt i * (((e i : Int) - (b i : Int) : Int) : Rat)) n') → ∀ z, CV g M_Mo_keep [vR 708, vI 112, vI 109] D (fun D' => Sg g M_Mo_ahead (rI P) 308 [vR 708, vU, vU, z, vU] [] D')) :
    ∀ (m k : Nat) (D : DD) (z1 z2 z4 : VV), k + m = n' → FM 222 226 244 253 D0 D → Mq D 112 (su (fun i => cub rt i * (((e i : Int) - (b i : Int) : Int) : Rat)) k) → Sg g M_Mo_ahead (rI P) 265 [vR 708, z1, z2, vI k, z4] [] D := by
  obtain ⟨p1, p2, p3⟩ := hp
  intro m
  induction m with
  | zero =>
    intro k D z1 z2 z4 hm hF hI
    obtain rfl : k = n' := by omega
    have e := p1
    rw [← hF.1 708 (by omega) (by omega)] at e
    exact s_Mo_ahead_265 ⟨fun _ => hk D hF hI _, fun q => by omega⟩
  | succ m ih =>
    intro k D z1 z2 z4 hm hF hI
    have e' := p1
    rw [← hF.1 708 (by omega) (by omega)] at e'
    have q := p3 k (by omega)
    have be := hbe k (by omega)
    have e728 : D 728 k = b k := by rw [hF.1 728 (by omega) (by omega)]; exact q.1
    have e729 : D 729 k = e k := by rw [hF.1 729 (by omega) (by omega)]; exact q.2.1
    refine s_Mo_ahead_265 ⟨fun q => by omega, fun _ => ?_⟩
    rw [e728, e729]
    refine ⟨⟨by unfold R32; omega, by omega, by omega, by unfold R32; omega⟩, ?_⟩
    refine (cost_step s (ln := fun i => (e i : Int) - (b i : Int)) (fun i hi => by have := hbe i hi; omega) (show k < n' by omega) p2 (by omega) hI (q.2.2.fm hF (by omega))).mono fun D2 r2 => s_Mo_ahead_294 ⟨by unfold R32; omega, ih (k + 1) D2 _ _ _ (by omega) (hF.tr r2.2) r2.1⟩
theorem mahead_ok (f : JF n r d w pl) (h0 : JM D n r d w) (hx : Ah n r d w pl x) {L : Int} (hsz : SZ x 200 L) : CI g M_Mo_ahead [vR 708] D (fun y D' => AhM D' n r d w pl x ∧ y = D' 708 26 ∧ D' 708 0 = 0 ∧ D' 708 11 = 1 ∧ (∀ k : Int, k ≠ 0 → k ≠ 11 → k ≠ 26 → D' 708 k = D 708 k) ∧ (∀ c, c ≠ 708 → c ≠ 709 → c ≠ 710 → (c < 728 ∨ 731 ≤ c) → D' c = D c) ∧ RK rowsP D D') := by
  have hn := f.1
  have hpl := f.2.2.2
  have wp : ∀ j, j < n → 0 < w j := fun j hj => (f.2.2.1 j hj).1
  refine CI.intro mc_Mo_ahead (Nat.le_of_ble_eq_true rfl) rfl (s_Mo_ahead_0 fun D1 e1 D3 e3 D5 e5 => ?_)
  have o5 : ∀ c, c ≠ 708 → D5 c = D c := fun c hc => by rw [e5, zw_off hc, e3, zw_off hc, e1, zw_off hc]
  have v5 : D5 708 0 = 0 ∧ D5 708 11 = 1 ∧ D5 708 26 = 0 ∧ ∀ k : Int, k ≠ 0 → k ≠ 11 → k ≠ 26 → D5 708 k = D 708 k := by
    refine ⟨?_, ?_, ?_, fun k k1 k2 k3 => ?_⟩
    · rw [e5, zw_ne (Or.inr (by omega)), e3, zw_ne (Or.inr (by omega)), e1, zw_eq]
    · rw [e5, zw_ne (Or.inr (by omega)), e3, zw_eq]
    · rw [e5, zw_eq]
    · rw [e5, zw_ne (Or.inr k3), e3, zw_ne (Or.inr k2), e1, zw_ne (Or.inr k1)]
  clear e1 e3 e5
  refine ma_fill (fun D6 z1 z2 z3 z4 F6 I6 => ?_) 200 0 D5 _ _ _ (by omega) FR.rf (fun u hu => by omega)
  have k6 : CA D5 D6 := ⟨fun c c1 _ _ c4 => F6 c (by omega) (by omega), fun k _ => by rw [F6 708 (by omega) (by omega)], RK.off (F6 709 (by omega) (by omega)) (F6 710 (by omega) (by omega))⟩
  refine (mset_ok (n := 242) (by omega) (x := 1) (by omega)).mono fun D7 r7 => s_Mo_ahead_45 ?_
  have k7 : CA D6 D7 := CA.fm (FM.f1 (lo := 230) (hi := 243) (lo2 := 230) (hi2 := 243) r7.2 (by omega)) fun m hm => by unfold rowsP at hm; omega
  have j5 : JM D5 n r d w := h0.of (by rw [v5.2.2.2 3 (by omega) (by omega) (by omega)]) fun c c1 c2 => o5 c (by omega)
  have j7 := j5.ca (k6.tr k7)
  refine ma_left f j7 (fun D8 z1 F8 I8 => ?_) n 0 D7 _ _ _ (by omega) FM.rf (fun i hi => by omega)
  have k8 : CA D5 D8 := (k6.tr k7).tr (CA.fm F8 fun m hm => by unfold rowsP at hm; omega)
  have j8 := j5.ca k8
  refine (mLast_ok f j8).mono fun y2 D9 r9 => ?_
  obtain ⟨rfl, ly⟩ := r9
  refine s_Mo_ahead_81 ((mFirst_ok f j8).mono fun y D10 r10 => ?_)
  obtain ⟨rfl, fy, fy2⟩ := r10
  refine s_Mo_ahead_86 ?_
  obtain ⟨fi, rfl⟩ : ∃ fi : Nat, y = fi := by
    rcases fy with ⟨_, fy⟩ | ⟨j, hj, fy⟩
    · exact ⟨200, by omega⟩
    · exact ⟨(r j).toNat, by have := f.2.1 j hj; omega⟩
  obtain ⟨la, rfl⟩ : ∃ la : Nat, y2 = la := by
    rcases ly with ⟨_, ly⟩ | ⟨⟨j, hj, ly⟩, _⟩
    · exact ⟨0, by omega⟩
    · exact ⟨(d j).toNat, by have := f.2.1 j hj; omega⟩
  have w10 : ∀ u : Nat, u < 200 → D10 730 u = -1 := fun u hu => by rw [F8.1 730 (by omega) (by omega), r7.2.1 730 (by omega) (by omega)]; exact I6 u hu
  have z26 : D10 708 26 = 0 := by rw [F8.1 708 (by omega) (by omega), r7.2.1 708 (by omega) (by omega), F6 708 (by omega) (by omega)]; exact v5.2.2.1
  -- behind the steps
  have fin : ∀ D12, (∃ fi la n' b e rt, FL n r d fi la ∧ MPR D12 728 729 24 26 n' b e rt ∧ Runs x fi la n' b e rt ∧ ∀ t, t < 200 → t < fi ∨ la ≤ t → x t = 0) → CA D5 D12 → (∀ j : Nat, j < n → ∃ y, En n r w pl x j y ∧ Mq D12 (60 + (j : Int)) y) → (∀ u : Nat, u < 200 → Wk n r w pl x u (D12 730 u)) → ∀ z1 z2 z3 z4,
      CV g M_Mo_set [vR 708, vI 224, vL 0] D12 (fun D' => Sg g M_Mo_ahead (rI (fun y D' => AhM D' n r d w pl x ∧ y = D' 708 26 ∧ D' 708 0 = 0 ∧ D' 708 11 = 1 ∧ (∀ k : Int, k ≠ 0 → k ≠ 11 → k ≠ 26 → D' 708 k = D 708 k) ∧ (∀ c, c ≠ 708 → c ≠ 709 → c ≠ 710 → (c < 728 ∨ 731 ≤ c) → D' c = D c) ∧ RK rowsP D D')) 255 [vR 708, z1, z2, z3, z4] [] D') := by
    rintro D12 ⟨fi, la, n', b, e, rt, fl, mp, rn, out⟩ k12 en wk z1 z2 z3 z4
    have fb := fl.bd f
    have srt := rn.sz fb.2.1 hsz
    refine (mset_ok (n := 224) (by omega) (x := 0) (by omega)).mono fun D13 r13 => s_Mo_ahead_255 ((mset_ok (n := 225) (by omega) (x := 1) (by omega)).mono fun D14 r14 => s_Mo_ahead_263 ?_)
    have q14 : Mq D14 112 0 := ⟨r13.1.f1 r14.2 (by omega), r14.1⟩
    have f14 : FM 222 226 244 253 D12 D14 := (FM.f1 r13.2 (by omega)).tr (FM.f1 r14.2 (by omega))
    have mp14 : MPR D14 728 729 24 26 n' b e rt := ⟨by rw [f14.1 708 (by omega) (by omega)]; exact mp.1, mp.2.1, fun i hi => by
      have a := mp.2.2 i hi
      have := mp.2.1
      exact ⟨by rw [f14.1 728 (by omega) (by omega)]; exact a.1, by rw [f14.1 729 (by omega) (by omega)]; exact a.2.1, a.2.2.fm f14 (by omega)⟩⟩
    refine ma_cost (b := b) (e := e) srt (fun i hi => by have := rn.rt i hi; omega) mp14 (fun D15 F15 I15 z => ?_) n' 0 D14 _ _ _ (by omega) FM.rf q14
    have ce : su (fun i => cub rt i * (((e i : Int) - (b i : Int) : Int) : Rat)) n' = su (cub x) 200 := (runs_cost rn fl f out).symm
    rw [ce] at I15
    refine (mkeep_ok (f := 112) (h := 109) (by omega) (by omega) (by omega) I15).mono fun D16 r16 => s_Mo_ahead_308 (retI ?_)
    have c16 : ∀ c, c ≠ 709 → c ≠ 710 → D16 c = D12 c := fun c c1 c2 => by rw [r16.2.1 c c1 c2, F15.1 c c1 c2, f14.1 c c1 c2]
    have rk : ∀ S : Int → Prop, (∀ m, S m → m < 218) → RK S D12 D16 := fun S hS => ((f14.rows.rk fun m hm => by have := hS m hm; omega).tr (F15.rows.rk fun m hm => by have := hS m hm; omega)).tr (r16.2.rows.rk fun m hm => by have := hS m hm; omega)
    have rkP : RK rowsP D12 D16 := ((f14.rows.rk fun m hm => by unfold rowsP at hm; omega).tr (F15.rows.rk fun m hm => by unfold rowsP at hm; omega)).tr (r16.2.rows.rk fun m hm => by unfold rowsP at hm; omega)
    have ml := mp.2.1
    refine ⟨⟨⟨fi, la, n', b, e, rt, fl, ⟨by rw [c16 708 (by omega) (by omega)]; exact mp.1, ml, fun i hi => ?_⟩, rn⟩, fun j hj => ?_, fun u hu => by rw [c16 730 (by omega) (by omega)]; exact wk u hu, r16.1⟩, rfl, ?_, ?_, fun k k1 k2 k3 => ?_, fun c c1 c2 c3 c4 => ?_, ?_⟩
    · have a := mp.2.2 i hi
      exact ⟨by rw [c16 728 (by omega) (by omega)]; exact a.1, by rw [c16 729 (by omega) (by omega)]; exact a.2.1, a.2.2.rk (rk (fun m => m < 96) fun m hm => by omega) ⟨by omega, by omega⟩⟩
    · obtain ⟨y, y1, y2⟩ := en j hj
      exact ⟨y, y1, y2.rk (rk (fun m => m < 144) fun m hm => by omega) ⟨by omega, by omega⟩⟩
    · rw [c16 708 (by omega) (by omega), k12.2.1 0 (by omega)]; exact v5.1
    · rw [c16 708 (by omega) (by omega), k12.2.1 11 (by omega)]; exact v5.2.1
    · rw [c16 708 (by omega) (by omega), k12.2.1 k k3]; exact v5.2.2.2 k k1 k2 k3
    · rw [c16 c c2 c3, k12.1 c c1 c2 c3 c4]; exact o5 c c1
    · exact (RK.off (o5 709 (by omega)) (o5 710 (by omega))).tr (k12.2.2.tr rkP)
  rcases Nat.eq_zero_or_pos n with z | z
  · have e0 : la = 0 := by
      rcases ly with ⟨_, ly⟩ | ⟨⟨j, hj, ly⟩, _⟩
      · omega
      · omega
    have out : ∀ t, t < 200 → t < 0 ∨ 0 ≤ t → x t = 0 := ah_out f hx (fi := 0) (la := 0) fun j hj => by omega
    refine s_Mo_ahead_87 ⟨fun _ => fin D10 ⟨0, 0, 0, fun _ => 0, fun _ => 0, fun _ => 0, Or.inl ⟨z, rfl, rfl⟩, ⟨z26, by omega, fun i hi => by omega⟩, Runs.nil (Nat.le_refl 0), out⟩ k8 (fun j hj => by omega) (fun u hu => Or.inl ⟨out u hu (Or.inr (Nat.zero_le u)), w10 u hu⟩) _ _ _ _, fun q => by omega⟩
  · have fl : FL n r d fi la := by
      refine Or.inr ⟨z, ?_, fun j hj => fy2 j hj, ?_, ?_⟩
      · rcases fy with ⟨z', _⟩ | fy
        · omega
        · exact fy
      · rcases ly with ⟨z', _⟩ | ly
        · omega
        · exact ly.1
      · rcases ly with ⟨z', _⟩ | ly
        · omega
        · exact ly.2
    have fb := fl.bd f
    have out := ah_out f hx fb.2.2.1
    have dn := hx.done hpl wp f.2.1 la fb.2.1
    have inv := edf_inv (r := r) (x := x) hpl wp fi
    have m7 : Mn D10 242 1 := r7.1.fm F8 (by omega)
    refine ma_loop f j5 hx fl z (fun D11 st z1 z2 z3 z4 h => ?_) la fi 0 D10 _ _ (by omega) ⟨⟨Nat.le_refl fi, fb.1⟩, k8, ⟨1, w, ⟨m7, by omega, by decide, fun j hj => ⟨I8 j hj, by rw [inv.2.1 j hj (fb.2.2.1 j hj).1, show ((1 : Int) : Rat) = 1 from rfl, Rat.mul_one]⟩⟩, by decide⟩, ⟨0, _, _, _, ⟨z26, by omega, fun i hi => by omega⟩, Runs.nil (e := fun _ => 0) (b := fun _ => 0) (rt := fun _ => 0) (Nat.le_refl fi), fun _ => rfl, Nat.le_refl 0⟩, Or.inl ⟨rfl, rfl⟩, fun j hj z => ?_, fun u hu => Or.inl ⟨out u (by omega) (Or.inl hu), w10 u (by omega)⟩, fun u _ hu => w10 u hu⟩
    · obtain ⟨i1, i2, _, ⟨n', b, e, rt, mp, rn, nf, ns⟩, i5, i6, i7, i8⟩ := h
      refine fin D11 ⟨fi, la, n', b, e, rt, fl, mp, rn, out⟩ i2 (fun j hj => i6 j hj (dn j hj (fb.2.2.1 j hj).2)) (fun u hu => ?_) _ _ _ _
      rcases Nat.lt_or_ge u la with y | y
      · exact i7 u y
      · exact Or.inl ⟨out u hu (Or.inr y), i8 u y hu⟩
    · rw [inv.2.1 j hj (fb.2.2.1 j hj).1] at z
      have := Rat.intCast_eq_zero_iff.mp z
      have := wp j hj
      omega
end MAH8
