/-! the model: plan, put together -/
section MPLAN9
variable {g : GG} {D : DD} {n : Nat} {r d w : Nat → Int} {pl : Nat → Nat}
theorem mplan_ok (f : JF n r d w pl) (h0 : JM D n r d w) : CI g M_Mo_plan [vR 708] D (fun y D' => (∃ x, PlM D' n r d w pl x) ∧ y = D' 708 20 ∧ D' 708 0 = 0 ∧ D' 708 10 = 1 ∧ D' 708 12 = 0 ∧ (∀ k : Int, k ≠ 0 → k ≠ 10 → k ≠ 12 → k ≠ 20 → D' 708 k = D 708 k) ∧ (∀ c, (c < 708 ∨ (711 ≤ c ∧ c < 716) ∨ 728 ≤ c) → D' c = D c) ∧ RK rowsA D D') := by
  have hn := f.1
  have hpl := f.2.2.2
  have wp : ∀ j, j < n → 0 < w j := fun j hj => (f.2.2.1 j hj).1
  refine CI.intro mc_Mo_plan (Nat.le_of_ble_eq_true rfl) rfl (s_Mo_plan_0 fun D1 e1 D3 e3 D5 e5 D7 e7 => ?_)
  have o7 : ∀ c, c ≠ 708 → D7 c = D c := fun c hc => by rw [e7, zw_off hc, e5, zw_off hc, e3, zw_off hc, e1, zw_off hc]
  have v7 : D7 708 0 = 0 ∧ D7 708 10 = 1 ∧ D7 708 12 = 0 ∧ D7 708 20 = 0 ∧ ∀ k : Int, k ≠ 0 → k ≠ 10 → k ≠ 12 → k ≠ 20 → D7 708 k = D 708 k := by
    refine ⟨?_, ?_, ?_, ?_, fun k k1 k2 k3 k4 => ?_⟩
    · rw [e7, zw_ne (Or.inr (by omega)), e5, zw_ne (Or.inr (by omega)), e3, zw_ne (Or.inr (by omega)), e1, zw_eq]
    · rw [e7, zw_ne (Or.inr (by omega)), e5, zw_eq]
    · rw [e7, zw_ne (Or.inr (by omega)), e5, zw_ne (Or.inr (by omega)), e3, zw_eq]
    · rw [e7, zw_eq]
    · rw [e7, zw_ne (Or.inr k4), e5, zw_ne (Or.inr k2), e3, zw_ne (Or.inr k3), e1, zw_ne (Or.inr k1)]
  clear e1 e3 e5 e7
  refine mplan_fill (fun D8 z2 z3 z4 z5 F8 I8 => ?_) 200 0 D7 _ _ _ _ (by omega) FR.rf (fun u hu => by omega)
  have h708_8 : D8 708 = D7 708 := F8 708 (by omega) (by omega)
  refine mplan_fill2 hn (by rw [h708_8, v7.2.2.2.2 3 (by omega) (by omega) (by omega) (by omega)]; exact h0.1) (fun D9 z2 z3 z4 z5 F9 I9 => ?_) n 0 D8 _ _ _ _ (by omega) FR.rf (fun i hi => by omega)
  have h708_9 : D9 708 = D7 708 := by rw [F9 708 (by omega) (by omega), h708_8]
  have c9 : ∀ c, 711 ≤ c → c < 716 → D9 c = D c := fun c c1 c2 => by rw [F9 c (by omega) (by omega), F8 c (by omega) (by omega), o7 c (by omega)]
  have j9 : JM D9 n r d w := h0.of (by rw [h708_9, v7.2.2.2.2 3 (by omega) (by omega) (by omega) (by omega)]) fun c c1 c2 => c9 c c1 (by omega)
  refine mplan_groups f j9 (fun D10 gs gj G W T z2 z3 z4 z5 F10 mg al => ?_) 13 0 (fun _ => -1) (fun _ => -1) (fun _ => 1) (fun _ => 1) D9 _ _ _ _ (by omega) FR.rf ⟨pc_start f.2.1 (fun _ _ => rfl) (fun _ _ => rfl), fun t ht => ?_, fun j hj => ⟨I9 j hj, fun q => absurd (show (0 : Int) ≤ -1 from q) (by decide)⟩⟩
  rotate_left
  · have a := I8 t ht
    rw [F9 716 (by omega) (by omega), F9 717 (by omega) (by omega), F9 718 (by omega) (by omega)]
    exact ⟨a.1, a.2.1, a.2.2.1⟩
  obtain ⟨pc, m1, m2⟩ := mg
  have c := pc_end pc f.2.1 wp al
  have hG : G ≤ 12 := by
    have a := pc.2.2.2.2.2.2.2.2.2.2.2.2
    have b := si_sum_bd (f := fun j => if 0 ≤ gj j then (1 : Int) else 0) (B := 1) (n := n) fun i hi => by
      show 0 ≤ (if 0 ≤ gj i then (1 : Int) else 0) ∧ (if 0 ≤ gj i then (1 : Int) else 0) ≤ 1
      split <;> omega
    omega
  obtain ⟨G', rfl⟩ : ∃ G' : Nat, G = G' := ⟨G.toNat, by have := pc.1; omega⟩
  have sz := c.sz hn f.2.2.1 (by omega)
  have h708_10 : D10 708 = D7 708 := by rw [F10 708 (by omega) (by omega), h708_9]
  have j10 : JM D10 n r d w := j9.of (by rw [F10 708 (by omega) (by omega)]) fun c c1 c2 => F10 c (by omega) (by omega)
  have d727 : ∀ u : Nat, u < 200 → D10 727 u = -1 := fun u hu => by rw [F10 727 (by omega) (by omega), F9 727 (by omega) (by omega)]; exact (I8 u hu).2.2.2
  generalize hx : spd gs W T = x at *
  have xn : ∀ t, t < 200 → 0 ≤ x t := fun t ht => by rw [← hx]; exact c.spn ht
  have dem : Dem n r d w x := by rw [← hx]; exact c.dem
  have tot : su x 200 = su (fun j => (w j : Rat)) n := by rw [← hx]; exact c.total
  refine s_Mo_plan_88 ⟨fun _ => (mFirst_ok f j10).mono fun y D2 r2 => ?_, fun q => absurd rfl q⟩
  obtain ⟨rfl, fy, fy2⟩ := r2
  refine s_Mo_plan_104 ((mLast_ok f j10).mono fun y2 D2' r2 => ?_)
  obtain ⟨rfl, ly⟩ := r2
  obtain ⟨fi, rfl⟩ : ∃ fi : Nat, y = fi := by
    rcases fy with ⟨_, fy⟩ | ⟨j, hj, fy⟩
    · exact ⟨200, by omega⟩
    · exact ⟨(r j).toNat, by have := f.2.1 j hj; omega⟩
  obtain ⟨la, rfl⟩ : ∃ la : Nat, y2 = la := by
    rcases ly with ⟨_, ly⟩ | ⟨⟨j, hj, ly⟩, _⟩
    · exact ⟨0, by omega⟩
    · exact ⟨(d j).toNat, by have := f.2.1 j hj; omega⟩
  have hla : la ≤ 200 := by
    rcases ly with ⟨_, ly⟩ | ⟨⟨j, hj, ly⟩, _⟩
    · omega
    · have := f.2.1 j hj; omega
  -- nothing is done outside
  have fl : 0 < n → FL n r d fi la := fun hn0 => by
    refine Or.inr ⟨hn0, ?_, fun j hj => fy2 j hj, ?_, ?_⟩
    · rcases fy with ⟨z, _⟩ | fy
      · omega
      · exact fy
    · rcases ly with ⟨z, _⟩ | ly
      · omega
      · exact ly.1
    · rcases ly with ⟨z, _⟩ | ly
      · omega
      · exact ly.2
  have out : ∀ t, t < 200 → t < fi ∨ la ≤ t → x t = 0 := fun t ht q => by
    rcases Nat.eq_zero_or_pos n with z | z
    · exact dem_out xn dem tot (fi := 0) (la := 0) (by omega) (Nat.le_refl 0) (fun j hj => by omega) t ht (Or.inr (Nat.zero_le t))
    · have fb := (fl z).bd f
      exact dem_out xn dem tot fb.2.1 fb.1 fb.2.2.1 t ht q
  refine s_Mo_plan_109 ((workPlan_ok (x := x) f j10 c hx.symm (fun t ht => (m1 t ht).2) (fun j hj => ((m2 j hj).2 (al j hj)).2) hla d727 out fy2).mono fun D11 r11 => s_Mo_plan_116 ?_)
  obtain ⟨o11, k11, en11, wk11⟩ := r11
  have h708_11 : D11 708 = D7 708 := by rw [o11 708 (by omega) (by omega) (by omega) (by omega), h708_10]
  have cells11 : ∀ c, (c < 708 ∨ (711 ≤ c ∧ c < 716) ∨ 728 ≤ c) → D11 c = D c := fun c hc => by rw [o11 c (by omega) (by omega) (by omega) (by omega), F10 c (by omega) (by omega), F9 c (by omega) (by omega), F8 c (by omega) (by omega), o7 c (by omega)]
  have rk11 : RK rowsA D D11 := by
    refine RK.tr (D' := D2') (RK.off ?_ ?_) (k11.rk fun m hm => by unfold rowsA at hm; omega)
    · rw [F10 709 (by omega) (by omega), F9 709 (by omega) (by omega), F8 709 (by omega) (by omega), o7 709 (by omega)]
    · rw [F10 710 (by omega) (by omega), F9 710 (by omega) (by omega), F8 710 (by omega) (by omega), o7 710 (by omega)]
  -- behind the steps
  have fin : ∀ D12, (∃ fi la n' b e rt, FL n r d fi la ∧ MPR D12 723 724 0 20 n' b e rt ∧ (∀ i : Nat, i < n' → D12 725 i = (rt i).num ∧ D12 726 i = (((rt i).den : Nat) : Int)) ∧ Runs x fi la n' b e rt ∧ ∀ t, t < 200 → t < fi ∨ la ≤ t → x t = 0) → (∀ c, c ≠ 708 → c ≠ 709 → c ≠ 710 → (c < 723 ∨ 727 ≤ c) → D12 c = D11 c) → (∀ k : Int, k ≠ 20 → D12 708 k = D11 708 k) → RF 0 48 248 253 D11 D12 → ∀ z1 z2 z3 z4 z5,
      CV g M_Mo_set [vR 708, vI 224, vL 0] D12 (fun D' => Sg g M_Mo_plan (rI (fun y D' => (∃ x, PlM D' n r d w pl x) ∧ y = D' 708 20 ∧ D' 708 0 = 0 ∧ D' 708 10 = 1 ∧ D' 708 12 = 0 ∧ (∀ k : Int, k ≠ 0 → k ≠ 10 → k ≠ 12 → k ≠ 20 → D' 708 k = D 708 k) ∧ (∀ c, (c < 708 ∨ (711 ≤ c ∧ c < 716) ∨ 728 ≤ c) → D' c = D c) ∧ RK rowsA D D')) 290 [vR 708, z1, z2, z3, z4, z5] [] D') := by
    rintro D12 ⟨fi, la, n', b, e, rt, fl, mp, sa, rn, out⟩ o12 k12 r12 z1 z2 z3 z4 z5
    have fb := fl.bd f
    have srt := rn.sz fb.2.1 sz
    refine (mset_ok (n := 224) (by omega) (x := 0) (by omega)).mono fun D13 r13 => s_Mo_plan_290 ((mset_ok (n := 225) (by omega) (x := 1) (by omega)).mono fun D14 r14 => s_Mo_plan_298 ?_)
    have q14 : Mq D14 112 0 := ⟨r13.1.f1 r14.2 (by omega), r14.1⟩
    have f14 : FM 222 226 244 253 D12 D14 := (FM.f1 r13.2 (by omega)).tr (FM.f1 r14.2 (by omega))
    have mp14 : MPR D14 723 724 0 20 n' b e rt := ⟨by rw [f14.1 708 (by omega) (by omega)]; exact mp.1, mp.2.1, fun i hi => by
      have a := mp.2.2 i hi
      have := mp.2.1
      exact ⟨by rw [f14.1 723 (by omega) (by omega)]; exact a.1, by rw [f14.1 724 (by omega) (by omega)]; exact a.2.1, a.2.2.fm f14 (by omega)⟩⟩
    refine mplan_cost (b := b) (e := e) srt (fun i hi => by have := rn.rt i hi; omega) mp14 (fun D15 z1 z2 z3 z4 z5 F15 I15 => ?_) n' 0 D14 _ _ _ _ (by omega) FM.rf q14
    have ce : su (fun i => cub rt i * (((e i : Int) - (b i : Int) : Int) : Rat)) n' = su (cub x) 200 := (runs_cost rn fl f out).symm
    rw [ce] at I15
    refine (mkeep_ok (f := 112) (h := 108) (by omega) (by omega) (by omega) I15).mono fun D16 r16 => s_Mo_plan_347 ?_
    have f12_16 : ∀ c, c ≠ 709 → c ≠ 710 → D16 c = D12 c := fun c c1 c2 => by rw [r16.2.1 c c1 c2, F15.1 c c1 c2, f14.1 c c1 c2]
    have h708 : ∀ k : Int, k ≠ 20 → D16 708 k = D7 708 k := fun k hk => by rw [f12_16 708 (by omega) (by omega), k12 k hk, h708_11]
    refine mplan_speeds hn (y := fun j => sdk W T (gj j)) (by rw [h708 3 (by omega), v7.2.2.2.2 3 (by omega) (by omega) (by omega) (by omega)]; exact h0.1) (fun j hj => ⟨Rat.le_of_lt (c.sp0 (c.gj0 j hj).1 (c.gj0 j hj).2), ?_⟩) (fun D17 F17 I17 => ?_) n 0 D16 _ _ _ _ (by omega) FM.rf (fun i hi => by omega)
    · rw [f12_16 720 (by omega) (by omega), f12_16 721 (by omega) (by omega), o12 720 (by omega) (by omega) (by omega) (by omega), o12 721 (by omega) (by omega) (by omega) (by omega), o11 720 (by omega) (by omega) (by omega) (by omega), o11 721 (by omega) (by omega) (by omega) (by omega)]
      exact (m2 j hj).2 (al j hj)
    · have f12_17 : ∀ c, c ≠ 709 → c ≠ 710 → D17 c = D12 c := fun c c1 c2 => by rw [F17.1 c c1 c2, f12_16 c c1 c2]
      have h708' : ∀ k : Int, k ≠ 20 → D17 708 k = D7 708 k := fun k hk => by rw [f12_17 708 (by omega) (by omega), k12 k hk, h708_11]
      have rk : ∀ S : Int → Prop, (∀ m, S m → m < 144 ∨ (168 ≤ m ∧ m < 216) ∨ (218 ≤ m ∧ m < 222)) → RK S D12 D17 := fun S hS =>
        ((f14.rows.rk fun m hm => by have := hS m hm; omega).tr (F15.rows.rk fun m hm => by have := hS m hm; omega)).tr ((r16.2.rows.rk fun m hm => by have := hS m hm; omega).tr (F17.rows.rk fun m hm => by have := hS m hm; omega))
      have ml := mp.2.1
      refine ⟨⟨x, ⟨⟨fi, la, n', b, e, rt, fl, ⟨by rw [f12_17 708 (by omega) (by omega)]; exact mp.1, ml, fun i hi => ?_⟩, rn⟩, fun j hj => ?_, fun u hu => ?_, ?_⟩, fun i hi => ?_, fun j hj => ?_, ⟨gs, gj, (G' : Int), W, T, c, hx.symm⟩⟩, rfl, ?_, ?_, ?_, fun k k1 k2 k3 k4 => ?_, fun c hc => ?_, ?_⟩
      · have a := mp.2.2 i hi
        exact ⟨by rw [f12_17 723 (by omega) (by omega)]; exact a.1, by rw [f12_17 724 (by omega) (by omega)]; exact a.2.1, a.2.2.rk (rk (fun m => m < 48) fun m hm => by omega) ⟨by omega, by omega⟩⟩
      · obtain ⟨y, y1, y2⟩ := en11 j hj
        exact ⟨y, y1, (y2.rk (S := fun m => 96 ≤ m ∧ m < 120) (r12.rk fun m hm => by omega) ⟨by omega, by omega⟩).rk (rk (fun m => 96 ≤ m ∧ m < 120) fun m hm => by omega) ⟨by omega, by omega⟩⟩
      · rw [f12_17 727 (by omega) (by omega), o12 727 (by omega) (by omega) (by omega) (by omega)]; exact wk11 u hu
      · exact Mp.fm r16.1 F17 (by omega)
      · rw [f12_17 708 (by omega) (by omega), mp.1] at hi
        have a := mp.2.2 i (by omega)
        rw [f12_17 725 (by omega) (by omega), f12_17 726 (by omega) (by omega)]
        exact ⟨rt i, a.2.2.rk (rk (fun m => m < 48) fun m hm => by omega) ⟨by omega, by omega⟩, sa i (by omega)⟩
      · refine ⟨sdk W T (gj j), by rw [← hx]; exact c.js hpl hj, I17 j hj, ?_⟩
        rw [f12_17 720 (by omega) (by omega), f12_17 721 (by omega) (by omega), o12 720 (by omega) (by omega) (by omega) (by omega), o12 721 (by omega) (by omega) (by omega) (by omega), o11 720 (by omega) (by omega) (by omega) (by omega), o11 721 (by omega) (by omega) (by omega) (by omega)]
        exact (m2 j hj).2 (al j hj)
      · rw [h708' 0 (by omega)]; exact v7.1
      · rw [h708' 10 (by omega)]; exact v7.2.1
      · rw [h708' 12 (by omega)]; exact v7.2.2.1
      · rw [h708' k k4]; exact v7.2.2.2.2 k k1 k2 k3 k4
      · rw [f12_17 c (by omega) (by omega), o12 c (by omega) (by omega) (by omega) (by omega)]; exact cells11 c hc
      · exact (rk11.tr (r12.rk fun m hm => by unfold rowsA at hm; omega)).tr (rk rowsA fun m hm => by unfold rowsA at hm; omega)
  have c717 : ∀ t : Nat, t < 200 → D11 717 t = (x t).num ∧ D11 718 t = (((x t).den : Nat) : Int) := fun t ht => by
    rw [o11 717 (by omega) (by omega) (by omega) (by omega), o11 718 (by omega) (by omega) (by omega) (by omega)]
    exact (m1 t ht).2
  have z20 : D11 708 20 = 0 := by rw [h708_11]; exact v7.2.2.2.1
  rcases Nat.eq_zero_or_pos n with z | z
  · have e0 : la = 0 := by
      rcases ly with ⟨_, ly⟩ | ⟨⟨j, hj, ly⟩, _⟩
      · omega
      · omega
    refine s_Mo_plan_119 ⟨fun _ => fin D11 ⟨0, 0, 0, fun _ => 0, fun _ => 0, fun _ => 0, Or.inl ⟨z, rfl, rfl⟩, ⟨z20, by omega, fun i hi => by omega⟩, fun i hi => by omega, Runs.nil (Nat.le_refl 0), fun t ht q => ?_⟩ (fun _ _ _ _ _ => rfl) (fun _ _ => rfl) RF.rf _ _ _ _ _, fun q => by omega⟩
    exact out t ht (Or.inr (by omega))
  · have fl' := fl z
    have fb := fl'.bd f
    rcases fl' with ⟨z', _⟩ | ⟨_, l1, l2, l3, l4⟩
    · omega
    · refine mplan_steps pc hn hx.symm xn c717 l1 l3 hla (fun D12 z1 z2 z3 z4 z5 ms => ?_) (la - fi) fi D11 _ _ _ (by omega) (Nat.le_refl fi) ⟨⟨0, fun _ => 0, fun _ => 0, fun _ => 0, ⟨z20, by omega, fun i hi => by omega⟩, fun i hi => by omega, Runs.nil (Nat.le_refl fi), Or.inl ⟨rfl, rfl⟩⟩, fun _ _ _ _ _ => rfl, fun _ _ => rfl, RF.rf⟩
      obtain ⟨⟨n', b, e, rt, mp, sa, rn, _⟩, o12, k12, r12⟩ := ms
      exact fin D12 ⟨fi, la, n', b, e, rt, fl z, mp, sa, rn, out⟩ o12 k12 r12 _ _ _ _ _
end MPLAN9
