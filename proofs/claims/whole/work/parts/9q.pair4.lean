/-! class and model, call by call: clear, job, level, convex, near, speed, plan, ahead -/
section PAIR4
variable {g : GG} {D D' : DD} {a b c e : Int} {n lv : Nat} {r d w rt ct : Nat → Int} {pl : Nat → Nat}
theorem pr_clear (h : INV D) : CI g M_Ke_clear [vR 0] D (fun v D1 => CI g M_Mo_clear [vR 708] D1 (fun v' D2 => v' = v ∧ INV D2)) := by
  obtain ⟨t0, n, r, d, w, pl, lv, rt, ct, i1, i2, i3, i4, i5⟩ := h.inc
  have hc := i1.2.1.1
  have hm := i1.2.2.1.1
  refine CI.intro mc_Ke_clear (Nat.le_of_ble_eq_true rfl) rfl (s_Ke_clear_0 (forget_ok.mono fun D1 r1 => s_Ke_clear_12 fun D2 e2 D3 e3 => retI ?_))
  obtain ⟨a1, a2, a3, a4, _⟩ := r1
  have o3 : ∀ c, c ≠ 1 → c ≠ 6 → c ≠ 9 → c ≠ 200 → c ≠ 573 → D3 c = D c := fun c h1 h2 h3 h4 h5 => by rw [e3, zw_off h2, e2, zw_off h1, a4 c h3 h4 h5]
  have p3 : ∀ c, c ≠ 1 → c ≠ 6 → D3 c = D1 c := fun c h1 h2 => by rw [e3, zw_off h2, e2, zw_off h1]
  have z1 : D3 1 0 = 0 := by rw [e3, zw_off (by omega), e2, zw_eq]
  have z6 : D3 6 0 = 0 := by rw [e3, zw_eq]
  have z9 : D3 9 0 = 0 := by rw [p3 9 (by omega) (by omega)]; exact a1
  have z200 : D3 200 0 = 0 := by rw [p3 200 (by omega) (by omega)]; exact a2
  have z573 : D3 573 0 = 0 := by rw [p3 573 (by omega) (by omega)]; exact a3
  refine CI.intro mc_Mo_clear (Nat.le_of_ble_eq_true rfl) rfl (s_Mo_clear_0 fun E1 f1 E3 f3 E5 f5 E7 f7 E9 f9 E11 f11 => retI ?_)
  have oE : ∀ c, c ≠ 708 → E11 c = D3 c := fun c hc => by rw [f11, zw_off hc, f9, zw_off hc, f7, zw_off hc, f5, zw_off hc, f3, zw_off hc, f1, zw_off hc]
  have m3 : E1 708 3 = n := by rw [f1, zw_ne (Or.inr (by omega)), o3 708 (by omega) (by omega) (by omega) (by omega) (by omega)]; exact hm
  have v12 : E11 708 12 = 0 := by rw [f11, zw_eq]
  have v11 : E11 708 11 = 0 := by rw [f11, zw_ne (Or.inr (by omega)), f9, zw_eq]
  have v10 : E11 708 10 = 0 := by rw [f11, zw_ne (Or.inr (by omega)), f9, zw_ne (Or.inr (by omega)), f7, zw_eq]
  have v7 : E11 708 7 = 0 := by rw [f11, zw_ne (Or.inr (by omega)), f9, zw_ne (Or.inr (by omega)), f7, zw_ne (Or.inr (by omega)), f5, zw_eq]
  have v3 : E11 708 3 = 0 := by rw [f11, zw_ne (Or.inr (by omega)), f9, zw_ne (Or.inr (by omega)), f7, zw_ne (Or.inr (by omega)), f5, zw_ne (Or.inr (by omega)), f3, zw_eq]
  have v33 : E11 708 33 = D 708 33 := by rw [f11, zw_ne (Or.inr (by omega)), f9, zw_ne (Or.inr (by omega)), f7, zw_ne (Or.inr (by omega)), f5, zw_ne (Or.inr (by omega)), f3, zw_ne (Or.inr (by omega)), f1, zw_ne (Or.inr (by omega)), o3 708 (by omega) (by omega) (by omega) (by omega) (by omega)]
  refine ⟨by rw [m3, hc], ?_⟩
  have t1 : ITx E11 := t0.kp (by rw [oE 703 (by omega), o3 703 (by omega) (by omega) (by omega) (by omega) (by omega)]) (by rw [oE 704 (by omega), o3 704 (by omega) (by omega) (by omega) (by omega) (by omega)]) v33 (by rw [oE 733 (by omega), o3 733 (by omega) (by omega) (by omega) (by omega) (by omega)])
  have jf : JF 0 r d w pl := ⟨by omega, fun j hj => by omega, fun j hj => by omega, ⟨fun q hq => by omega, fun q q' _ hq => by omega, fun j hj => by omega⟩⟩
  refine INC.inv (n := 0) (lv := 0) (r := r) (d := d) (w := w) (pl := pl) (rt := rt) (ct := ct) ⟨⟨jf, ⟨by rw [oE 1 (by omega)]; exact z1, fun j hj => by omega, fun q hq => by omega⟩, ⟨v3, fun j hj => by omega⟩, ⟨by omega, fun i hi => by omega, fun i hi => by omega⟩, ⟨by rw [oE 6 (by omega)]; exact z6, fun i hi => by omega⟩, ⟨v7, fun i hi => by omega⟩⟩, Or.inl ⟨by rw [oE 9 (by omega)]; exact z9, v10⟩, Or.inl ⟨by rw [oE 200 (by omega)]; exact z200, v11⟩, Or.inl ⟨by rw [oE 573 (by omega)]; exact z573, v12⟩, i5.kp fun c c1 c2 => by rw [oE c (by omega), o3 c (by omega) (by omega) (by omega) (by omega) (by omega)]⟩ t1
theorem pr_job (h : INV D) : CI g M_Ke_job [vR 0, vI a, vI b, vI c] D (fun v D1 => CI g M_Mo_job [vR 708, vI a, vI b, vI c] D1 (fun v' D2 => v' = v ∧ INV D2)) := by
  obtain ⟨t0, n, r, d, w, pl, lv, rt, ct, i1, i2, i3, i4, i5⟩ := h.inc
  refine (keJob_ok i1.1 i1.2.1).mono fun v D1 r1 => ?_
  rcases r1 with ⟨nv, rfl, rfl⟩ | ⟨hv, rfl, z9, z200, z573, o1, p, jf, jc⟩
  · refine (mJob_ok i1.1 i1.2.2.1).mono fun v' D2 r2 => ?_
    rcases r2 with ⟨_, rfl, rfl⟩ | ⟨hv, _⟩
    · exact ⟨rfl, h.w0⟩
    · exact absurd hv nv
  · have jm1 : JM D1 n r d w := i1.2.2.1.kp (by rw [o1 708 (by omega)]) fun c _ _ => o1 c (by omega)
    refine (mJob_ok i1.1 jm1).mono fun v' D2 r2 => ?_
    rcases r2 with ⟨nv, _⟩ | ⟨_, rfl, v10, v11, v12, v0, vk, o2, jm⟩
    · exact absurd hv nv
    · have oc : ∀ c, (6 ≤ c ∧ c ≠ 9 ∧ c ≠ 200 ∧ c ≠ 573) → c ≠ 708 → (c < 711 ∨ 714 ≤ c) → D2 c = D c := fun c h1 h2 h3 => by rw [o2 c h2 h3, o1 c (Or.inr h1)]
      have ok : ∀ k : Int, k ≠ 0 → k ≠ 3 → k ≠ 10 → k ≠ 11 → k ≠ 12 → D2 708 k = D 708 k := fun k h1 h2 h3 h4 h5 => by rw [vk k h1 h2 h3 h4 h5, o1 708 (by omega)]
      refine ⟨rfl, INC.inv (n := n + 1) (lv := lv) (r := ext r n a) (d := ext d n b) (w := ext w n c) (pl := insP pl n p) (rt := rt) (ct := ct) ⟨⟨jf, jc.kp fun c _ _ => o2 c (by omega) (by omega), jm, i1.2.2.2.1, i1.2.2.2.2.1.kp fun c _ _ => oc c (by omega) (by omega) (by omega), i1.2.2.2.2.2.kp (ok 7 (by omega) (by omega) (by omega) (by omega) (by omega)) fun c _ _ => oc c (by omega) (by omega) (by omega)⟩, Or.inl ⟨by rw [o2 9 (by omega) (by omega)]; exact z9, v10⟩, Or.inl ⟨by rw [o2 200 (by omega) (by omega)]; exact z200, v11⟩, Or.inl ⟨by rw [o2 573 (by omega) (by omega)]; exact z573, v12⟩, i5.kp fun c _ _ => oc c (by omega) (by omega) (by omega)⟩ (t0.kp (by rw [oc 703 (by omega) (by omega) (by omega)]) (oc 704 (by omega) (by omega) (by omega)) (ok 33 (by omega) (by omega) (by omega) (by omega) (by omega)) (oc 733 (by omega) (by omega) (by omega)))⟩
theorem pr_level (h : INV D) : CI g M_Ke_level [vR 0, vI a, vI b] D (fun v D1 => CI g M_Mo_level [vR 708, vI a, vI b] D1 (fun v' D2 => v' = v ∧ INV D2)) := by
  obtain ⟨t0, n, r, d, w, pl, lv, rt, ct, i1, i2, i3, i4, i5⟩ := h.inc
  have hn := i1.1.1
  refine (keLevel_ok i1.2.2.2.1 i1.2.2.2.2.1).mono fun v D1 r1 => ?_
  rcases r1 with ⟨nv, rfl, rfl⟩ | ⟨hv, rfl, z573, y1, o1, lc⟩
  · refine (mLevel_ok i1.2.2.2.1 i1.2.2.2.2.2).mono fun v' D2 r2 => ?_
    rcases r2 with ⟨_, rfl, rfl⟩ | ⟨hv, _⟩
    · exact ⟨rfl, h.w0⟩
    · exact absurd hv nv
  · have lm1 : LM D1 lv rt ct := i1.2.2.2.2.2.kp (by rw [o1 708 (by omega) (by omega) (by omega) (by omega)]) fun c _ _ => o1 c (by omega) (by omega) (by omega) (by omega)
    refine (mLevel_ok i1.2.2.2.1 lm1).mono fun v' D2 r2 => ?_
    rcases r2 with ⟨nv, _⟩ | ⟨_, rfl, v0, v12, vk, o2, lm⟩
    · exact absurd hv nv
    · have oc : ∀ c, c ≠ 6 → c ≠ 7 → c ≠ 8 → c ≠ 573 → c ≠ 708 → c ≠ 714 → c ≠ 715 → D2 c = D c := fun c h1 h2 h3 h4 h5 h6 h7 => by rw [o2 c h5 h6 h7, o1 c h1 h2 h3 h4]
      have ok : ∀ k : Int, k ≠ 0 → k ≠ 7 → k ≠ 12 → D2 708 k = D 708 k := fun k h1 h2 h3 => by rw [vk k h1 h2 h3, o1 708 (by omega) (by omega) (by omega) (by omega)]
      have rk : ∀ S, RK S D D2 := fun S => RK.off (oc 709 (by omega) (by omega) (by omega) (by omega) (by omega) (by omega) (by omega)) (oc 710 (by omega) (by omega) (by omega) (by omega) (by omega) (by omega) (by omega))
      refine ⟨rfl, INC.inv (n := n) (lv := lv + 1) (r := r) (d := d) (w := w) (pl := pl) (rt := ext rt lv a) (ct := ext ct lv b) ⟨⟨i1.1, i1.2.1.kp fun c _ _ => oc c (by omega) (by omega) (by omega) (by omega) (by omega) (by omega) (by omega), i1.2.2.1.kp (ok 3 (by omega) (by omega) (by omega)) fun c _ _ => oc c (by omega) (by omega) (by omega) (by omega) (by omega) (by omega) (by omega), ext_lf i1.2.2.2.1 hv, lc.kp fun c _ _ => o2 c (by omega) (by omega) (by omega), lm⟩, i2.kp hn (fun c hc => oc c (by omega) (by omega) (by omega) (by omega) (by omega) (by omega) (by omega)) (ok _ (by omega) (by omega) (by omega)) (ok _ (by omega) (by omega) (by omega)) (rk _), i3.kp hn (fun c hc => oc c (by omega) (by omega) (by omega) (by omega) (by omega) (by omega) (by omega)) (ok _ (by omega) (by omega) (by omega)) (ok _ (by omega) (by omega) (by omega)) (rk _), Or.inl ⟨by rw [o2 573 (by omega) (by omega) (by omega)]; exact z573, v12⟩, i5.kp fun c _ _ => oc c (by omega) (by omega) (by omega) (by omega) (by omega) (by omega) (by omega)⟩ (t0.kp (by rw [oc 703 (by omega) (by omega) (by omega) (by omega) (by omega) (by omega) (by omega)]) (oc 704 (by omega) (by omega) (by omega) (by omega) (by omega) (by omega) (by omega)) (ok 33 (by omega) (by omega) (by omega)) (oc 733 (by omega) (by omega) (by omega) (by omega) (by omega) (by omega) (by omega)))⟩
theorem pr_convex (h : INV D) : CI g M_Ke_convex [vR 0] D (fun v D1 => CI g M_Mo_convex [vR 708] D1 (fun v' D2 => v' = v ∧ INV D2)) := by
  obtain ⟨t0, n, r, d, w, pl, lv, rt, ct, i1, i2, i3, i4, i5⟩ := h.inc
  refine (keConvex_ok i1.2.2.2.1 i1.2.2.2.2.1).mono fun v D1 r1 => ?_
  obtain ⟨rfl, c1⟩ := r1
  refine (mConvex_ok i1.2.2.2.1 i1.2.2.2.2.2).mono fun v' D2 r2 => ?_
  obtain ⟨rfl, c2⟩ := r2
  exact ⟨c2.unique c1, h.w0⟩
theorem pr_near (h : INV D) : CD g M_Ke_near [vR 0] D (fun v D1 => CD g M_Mo_near [vR 708] D1 (fun v' D2 => v' = v ∧ INV D2)) := by
  obtain ⟨t0, n, r, d, w, pl, lv, rt, ct, i1, i2, i3, i4, i5⟩ := h.inc
  by_cases z : D 9 0 = 0
  · refine (keNear_0 z).mono fun v D1 r1 => ?_
    obtain ⟨rfl, rfl⟩ := r1
    have m10 : D1 708 10 = 0 := by rcases i2 with i | i; exact i.2; omega
    refine (mNear_0 m10).mono fun v' D2 r2 => ?_
    obtain ⟨rfl, rfl⟩ := r2
    exact ⟨rfl, h.w0⟩
  · obtain ⟨m10, x, L, sz, _, ⟨fi, la, n', b', e', rt', fl, pr, mp, mb, sm, rn, bd⟩, _⟩ := i2.both i1.1 z
    have fb := fl.bd i1.1
    have z1 : D 9 0 = 1 := by rcases i2 with i | i; exact absurd i.1 z; exact i.1
    have hbe : ∀ i, i < n' → b' i < e' i ∧ e' i ≤ 200 := fun i hi => by
      have := rn.rt i hi
      omega
    refine (keNear_ok pr z1 sm hbe).mono fun v D1 r1 => ?_
    obtain ⟨rfl, rfl⟩ := r1
    refine (mNear_ok mb m10 sm hbe).mono fun v' D2 r2 => ?_
    obtain ⟨rfl, rfl⟩ := r2
    exact ⟨rfl, h.w0⟩
theorem pr_speed (h : INV D) : CD g M_Ke_speed [vR 0, vD a] D (fun v D1 => CD g M_Mo_speed [vR 708, vD a] D1 (fun v' D2 => v' = v ∧ INV D2)) := by
  obtain ⟨t0, n, r, d, w, pl, lv, rt, ct, i1, i2, i3, i4, i5⟩ := h.inc
  by_cases z : D 9 0 = 0
  · refine (keSpeed_0 z).mono fun v D1 r1 => ?_
    obtain ⟨rfl, rfl⟩ := r1
    have m10 : D1 708 10 = 0 := by rcases i2 with i | i; exact i.2; omega
    refine (mSpeed_0 m10).mono fun v' D2 r2 => ?_
    obtain ⟨rfl, rfl⟩ := r2
    exact ⟨rfl, h.w0⟩
  · obtain ⟨m10, x, L, sz, _, ⟨fi, la, n', b', e', rt', fl, pr, mp, mb, sm, rn, bd⟩, _⟩ := i2.both i1.1 z
    have z1 : D 9 0 = 1 := by rcases i2 with i | i; exact absurd i.1 z; exact i.1
    refine (keSpeed_ok pr z1 sm).mono fun v D1 r1 => ?_
    obtain ⟨rfl, s1⟩ := r1
    refine (mSpeed_ok mb m10 sm).mono fun v' D2 r2 => ?_
    obtain ⟨rfl, s2⟩ := r2
    exact ⟨s2.unique s1, h.w0⟩
theorem pr_plan (h : INV D) : CI g M_Ke_plan [vR 0] D (fun v D1 => CI g M_Mo_plan [vR 708] D1 (fun v' D2 => v' = v ∧ INV D2)) := by
  obtain ⟨t0, n, r, d, w, pl, lv, rt, ct, i1, i2, i3, i4, i5⟩ := h.inc
  have hn := i1.1.1
  refine (kePlan_ok i1.1 i1.2.1 i5.1 i5.2).mono fun v D1 r1 => ?_
  obtain ⟨⟨x, pc⟩, rfl, z9, z573, z463, f465, _, F1⟩ := r1
  have jm1 : JM D1 n r d w := i1.2.2.1.kp (by rw [F1 708 (by omega) (by omega)]) fun c _ _ => F1 c (by omega) (by omega)
  refine (mplan_ok i1.1 jm1).mono fun v' D2 r2 => ?_
  obtain ⟨⟨x', pm⟩, rfl, v0, v10, v12, vk, o2, rk⟩ := r2
  have pc2 : PlC D2 n r d w pl x := pc.kp hn fun c hc => o2 c (by omega)
  have ip : IPl D2 n r d w pl := Or.inr ⟨by rw [o2 9 (by omega)]; exact z9, v10, x, x', pc2, pm⟩
  have oc : ∀ c, ((1 ≤ c ∧ c < 9) ∨ (200 ≤ c ∧ c < 391) ∨ (574 ≤ c ∧ c < 708) ∨ (711 ≤ c ∧ c < 716) ∨ 728 ≤ c) → D2 c = D c := fun c hc => by rw [o2 c (by omega), F1 c (by omega) (by omega)]
  have ok : ∀ k : Int, k ≠ 0 → k ≠ 10 → k ≠ 12 → k ≠ 20 → D2 708 k = D 708 k := fun k h1 h2 h3 h4 => by rw [vk k h1 h2 h3 h4, F1 708 (by omega) (by omega)]
  obtain ⟨_, _, _, _, _, ⟨_, _, n', _, _, _, _, pr, mp, _⟩, _⟩ := ip.both i1.1 (by rw [o2 9 (by omega)]; omega)
  have q1 := pr.1
  have q2 := mp.1
  rw [o2 9 (by omega)] at q1
  refine ⟨by rw [q2, q1], INC.inv (n := n) (lv := lv) (r := r) (d := d) (w := w) (pl := pl) (rt := rt) (ct := ct) ⟨i1.kp (fun c hc => oc c (by omega)) (ok _ (by omega) (by omega) (by omega) (by omega)) (ok _ (by omega) (by omega) (by omega) (by omega)), ip, i3.kp hn (fun c hc => oc c (by omega)) (ok _ (by omega) (by omega) (by omega) (by omega)) (ok _ (by omega) (by omega) (by omega) (by omega)) ?_, Or.inl ⟨by rw [o2 573 (by omega)]; exact z573, v12⟩, IZ.kp (D := D1) ⟨z463, f465⟩ fun c _ _ => o2 c (by omega)⟩ (t0.kp (by rw [oc 703 (by omega)]) (oc 704 (by omega)) (ok 33 (by omega) (by omega) (by omega) (by omega)) (oc 733 (by omega)))⟩
  exact RK.tr (RK.off (F1 709 (by omega) (by omega)) (F1 710 (by omega) (by omega))) rk
theorem pr_ahead (h : INV D) : CI g M_Ke_ahead [vR 0] D (fun v D1 => CI g M_Mo_ahead [vR 708] D1 (fun v' D2 => v' = v ∧ INV D2)) := by
  obtain ⟨t0, n, r, d, w, pl, lv, rt, ct, i1, i2, i3, i4, i5⟩ := h.inc
  have hn := i1.1.1
  have hx := ahx_ah (n := n) (r := r) (d := d) (w := w) (pl := pl)
  refine (keAhead_ok i1.1 i1.2.1 hx).mono fun v D1 r1 => ?_
  obtain ⟨ac, rfl, z200, F1⟩ := r1
  have jm1 : JM D1 n r d w := i1.2.2.1.kp (by rw [F1 708 (by omega) (by omega)]) fun c _ _ => F1 c (by omega) (by omega)
  obtain ⟨⟨L, sz⟩, pf⟩ := ac
  refine (mahead_ok i1.1 jm1 hx sz).mono fun v' D2 r2 => ?_
  obtain ⟨am, rfl, v0, v11, vk, o2, rk⟩ := r2
  have ia : IAh D2 n r d w pl := Or.inr ⟨by rw [o2 200 (by omega) (by omega) (by omega) (by omega)]; exact z200, v11, _, hx, ⟨⟨L, sz⟩, pf.kp hn fun c _ _ => o2 c (by omega) (by omega) (by omega) (by omega)⟩, am⟩
  have oc : ∀ c, ((1 ≤ c ∧ c < 200) ∨ (457 ≤ c ∧ c < 530) ∨ (573 ≤ c ∧ c < 708) ∨ (711 ≤ c ∧ c < 728) ∨ 731 ≤ c) → D2 c = D c := fun c hc => by rw [o2 c (by omega) (by omega) (by omega) (by omega), F1 c (by omega) (by omega)]
  have ok : ∀ k : Int, k ≠ 0 → k ≠ 11 → k ≠ 26 → D2 708 k = D 708 k := fun k h1 h2 h3 => by rw [vk k h1 h2 h3, F1 708 (by omega) (by omega)]
  obtain ⟨_, _, _, ⟨_, _, n', _, _, _, _, pr, mp, _⟩, _⟩ := ia.both i1.1 (by rw [o2 200 (by omega) (by omega) (by omega) (by omega)]; omega)
  have q1 := pr.1
  have q2 := mp.1
  rw [o2 200 (by omega) (by omega) (by omega) (by omega)] at q1
  have rk2 : RK rowsP D D2 := RK.tr (RK.off (F1 709 (by omega) (by omega)) (F1 710 (by omega) (by omega))) rk
  refine ⟨by rw [q2, q1], INC.inv (n := n) (lv := lv) (r := r) (d := d) (w := w) (pl := pl) (rt := rt) (ct := ct) ⟨i1.kp (fun c hc => oc c (by omega)) (ok _ (by omega) (by omega) (by omega)) (ok _ (by omega) (by omega) (by omega)), i2.kp hn (fun c hc => oc c (by omega)) (ok _ (by omega) (by omega) (by omega)) (ok _ (by omega) (by omega) (by omega)) (rk2.sub fun m hm => ?_), ia, i4.kp hn (by rw [oc 573 (by omega)]) (fun c hc => oc c (by omega)) (ok _ (by omega) (by omega) (by omega)) (rk2.sub fun m hm => ?_), i5.kp fun c _ _ => oc c (by omega)⟩ (t0.kp (by rw [oc 703 (by omega)]) (oc 704 (by omega)) (ok 33 (by omega) (by omega) (by omega)) (oc 733 (by omega)))⟩
  · unfold rowsL at hm; unfold rowsP; omega
  · unfold rowsS at hm; unfold rowsP; omega
end PAIR4
