/-! the model: plan, its steps and its cost -/
/-- the steps of a profile of the model -/
def MPR (D : DD) (cb ce : Nat) (sp fs : Int) (n : Nat) (b e : Nat → Nat) (rt : Nat → Rat) : Prop := D 708 fs = n ∧ n ≤ 24 ∧ ∀ i : Nat, i < n → D cb i = b i ∧ D ce i = e i ∧ Mq D (sp + i) (rt i)
/-- what a profile of the model holds -/
def MPF (D : DD) (cb ce cw : Nat) (sp en co fs : Int) (n : Nat) (r d w : Nat → Int) (pl : Nat → Nat) (x : Nat → Rat) : Prop :=
  (∃ fi la n' b e rt, FL n r d fi la ∧ MPR D cb ce sp fs n' b e rt ∧ Runs x fi la n' b e rt) ∧
  (∀ j : Nat, j < n → ∃ y, En n r w pl x j y ∧ Mq D (en + j) y) ∧
  (∀ u : Nat, u < 200 → Wk n r w pl x u (D cw u)) ∧ Mq D co (su (cub x) 200)
/-- rows that are kept -/
def RK (S : Int → Prop) (D D' : DD) : Prop := ∀ m, S m → D' 710 m = D 710 m ∧ ∀ j, 0 ≤ j → j < 100 → mr D' m j = mr D m j
section MPLAN7
variable {g : GG} {D D' D'' D0 : DD} {n : Nat} {r d w gs gj : Nat → Int} {G : Int} {W T : Int → Int} {pl : Nat → Nat} {x : Nat → Rat} {S : Int → Prop}
theorem RK.rf : RK S D D := fun _ _ => ⟨rfl, fun _ _ _ => rfl⟩
theorem RK.tr (h : RK S D D') (h' : RK S D' D'') : RK S D D'' := fun m h1 => ⟨(h' m h1).1.trans (h m h1).1, fun j j1 j2 => ((h' m h1).2 j j1 j2).trans ((h m h1).2 j j1 j2)⟩
theorem RF.rk {lo hi lo2 hi2 : Int} (h : RF lo hi lo2 hi2 D D') (q : ∀ m, S m → (m < lo ∨ hi ≤ m) ∧ (m < lo2 ∨ hi2 ≤ m)) : RK S D D' := fun m hm => h m (q m hm).1 (q m hm).2
theorem RK.off (h1 : D' 709 = D 709) (h2 : D' 710 = D 710) : RK S D D' := fun m _ => ⟨by rw [h2], fun j _ _ => by unfold mr; rw [h1]⟩
theorem Mq.rk {f : Int} {y : Rat} (h : Mq D f y) (t : RK S D D') (s : S (2 * f) ∧ S (2 * f + 1)) : Mq D' f y := ⟨h.1.of (t _ s.1).1 (t _ s.1).2, h.2.of (t _ s.2).1 (t _ s.2).2⟩
theorem Mq.off {f : Int} {y : Rat} (h : Mq D f y) (h1 : D' 709 = D 709) (h2 : D' 710 = D 710) : Mq D' f y := h.rk (S := fun _ => True) (RK.off h1 h2) ⟨trivial, trivial⟩
theorem MB49 : (2 : Int) ^ 475 < MB ^ 49 := by decide +kernel
theorem MB16 : (2 : Int) ^ 154 < MB ^ 16 := by decide +kernel
theorem cost_step {rt : Nat → Rat} {n' : Nat} {L : Int} (s : SZ rt n' L) {ln : Nat → Int} (hl : ∀ j, j < n' → 0 ≤ ln j ∧ ln j ≤ 200) {k : Nat} (hk : k < n') (h24 : n' ≤ 24) {f : Int} (hf : 0 ≤ f ∧ f < 111) (hs : Mq D 112 (su (fun j => cub rt j * (ln j : Rat)) k)) (hx : Mq D f (rt k)) :
    CV g M_Mo_sumCube [vR 708, vI f, vI (ln k)] D (fun D' => Mq D' 112 (su (fun j => cub rt j * (ln j : Rat)) (k + 1)) ∧ FM 222 226 244 253 D D') := by
  have c := s.cost hl (i := k) (by omega) (by omega)
  have q := s.nd hk
  have m1 := MB49
  have m2 := MB16
  have m3 : (2 : Int) ^ 420 < 2 ^ 475 := by decide
  have m4 : (2 : Int) ^ 140 < 2 ^ 154 := by decide
  exact msumCube_ok hf hs hx (hl k hk) (by omega) (by omega) (by omega) (by omega)
/-- a step's cells, at the time t -/
def MS (n : Nat) (r d : Nat → Int) (x : Nat → Rat) (fi : Nat) (D0 : DD) (t : Nat) (D : DD) : Prop :=
  (∃ n' b e rt, MPR D 723 724 0 20 n' b e rt ∧ (∀ i : Nat, i < n' → D 725 i = (rt i).num ∧ D 726 i = (((rt i).den : Nat) : Int)) ∧ Runs x fi t n' b e rt ∧ ((n' = 0 ∧ t = fi) ∨ (1 ≤ n' ∧ fi < t ∧ (n' : Int) ≤ evs n r d fi t + 1))) ∧
  (∀ c, c ≠ 708 → c ≠ 709 → c ≠ 710 → (c < 723 ∨ 727 ≤ c) → D c = D0 c) ∧ (∀ k : Int, k ≠ 20 → D 708 k = D0 708 k) ∧ RF 0 48 248 253 D0 D
theorem mplan_steps (pc : PCert n r d w gs gj G W T) (hn : n ≤ 12) (hx : x = spd gs W T) (hxn : ∀ t, t < 200 → 0 ≤ x t) (hc : ∀ t : Nat, t < 200 → D0 717 t = (x t).num ∧ D0 718 t = (((x t).den : Nat) : Int)) {fi la : Nat} (hfe : ∃ j, j < n ∧ r j = fi) (hle : ∃ j, j < n ∧ d j = la) (hla : la ≤ 200) {Q : Option VV → EE → DD → Prop}
    (hk : ∀ D z1 z2 z3 z4 z5, MS n r d x fi D0 la D → CV g M_Mo_set [vR 708, vI 224, vL 0] D (fun D' => Sg g M_Mo_plan Q 290 [vR 708, z1, z2, z3, z4, z5] [] D')) :
    ∀ (m t : Nat) (D : DD) (z1 z2 z5 : VV), t + m = la → fi ≤ t → MS n r d x fi D0 t D → Sg g M_Mo_plan Q 119 [vR 708, z1, z2, vI la, vI t, z5] [] D := by
  intro m
  induction m with
  | zero =>
    intro t D z1 z2 z5 hm hft h
    obtain rfl : t = la := by omega
    exact s_Mo_plan_119 ⟨fun _ => hk D _ _ _ _ _ h, fun q => by omega⟩
  | succ m ih =>
    intro t D z1 z2 z5 hm hft h
    have ht : t < 200 := by omega
    obtain ⟨⟨n', b, e, rt, ⟨p1, p2, p3⟩, sa, rn, cnt⟩, f1, f2, f3⟩ := h
    have e717 := f1 717 (by omega) (by omega) (by omega) (by omega)
    have e718 := f1 718 (by omega) (by omega) (by omega) (by omega)
    have ct := hc t ht
    have ev := evs_22 (n := n) (r := r) (d := d) (f := fi) (t := la) hn hfe hle
    have evm := evs_mono (n := n) (r := r) (d := d) (f := fi) (show (t : Int) ≤ la by omega)
    -- the end of a step is set
    have fin1 : ∀ (D2 : DD) (z1 z2 z5 : VV) (n2 : Nat) (b2 e2 : Nat → Nat) (rt2 : Nat → Rat), n2 ≤ 24 → 1 ≤ n2 → D2 708 20 = n2 → (∀ i : Nat, i < n2 → D2 723 i = b2 i ∧ (i + 1 < n2 → D2 724 i = e2 i) ∧ Mq D2 (0 + i) (rt2 i)) → e2 (n2 - 1) = t + 1 → (∀ i : Nat, i < n2 → D2 725 i = (rt2 i).num ∧ D2 726 i = (((rt2 i).den : Nat) : Int)) → Runs x fi (t + 1) n2 b2 e2 rt2 → (n2 : Int) ≤ evs n r d fi (t + 1 : Nat) + 1 →
        (∀ c, c ≠ 708 → c ≠ 709 → c ≠ 710 → (c < 723 ∨ 727 ≤ c) → D2 c = D0 c) → (∀ k : Int, k ≠ 20 → D2 708 k = D0 708 k) → RF 0 48 248 253 D0 D2 → Sg g M_Mo_plan Q 261 [vR 708, z1, z2, vI la, vI t, z5] [] D2 := by
      intro D2 z1 z2 z5 n2 b2 e2 rt2 q1 q2 q3 q4 q5 q6 q7 q8 q9 q10 q11
      refine s_Mo_plan_261 ⟨⟨by unfold R32; omega, by unfold R32; omega, by omega⟩, fun D4 e4 => ⟨by unfold R32; omega, ih (t + 1) D4 _ _ _ (by omega) (by omega) ⟨⟨n2, b2, e2, rt2, ⟨?_, q1, fun i hi => ⟨?_, ?_, ?_⟩⟩, fun i hi => ?_, q7, Or.inr ⟨q2, by omega, q8⟩⟩, fun c c1 c2 c3 c4 => ?_, fun k hk => ?_, ?_⟩⟩⟩
      · rw [e4, zw_off (by omega)]; exact q3
      · rw [e4, zw_off (by omega)]; exact (q4 i hi).1
      · rw [e4, q3]
        rcases (show i + 1 = n2 ∨ i + 1 < n2 by omega) with y | y
        · rw [show (i : Int) = (n2 : Int) - 1 by omega, zw_eq]
          rw [show i = n2 - 1 by omega, q5]
          omega
        · rw [zw_ne (Or.inr (by omega))]; exact (q4 i hi).2.1 y
      · exact (q4 i hi).2.2.off (by rw [e4, zw_off (by omega)]) (by rw [e4, zw_off (by omega)])
      · rw [e4, zw_off (by omega), zw_off (by omega)]; exact q6 i hi
      · rw [e4, zw_off (by omega)]; exact q9 c c1 c2 c3 c4
      · rw [e4, zw_off (by omega)]; exact q10 k hk
      · exact q11.tr (RF.off (by rw [e4, zw_off (by omega)]) (by rw [e4, zw_off (by omega)]))
    -- a new step
    have new : (0 < n' → rt (n' - 1) ≠ x t) → (n' + 1 : Int) ≤ evs n r d fi (t + 1 : Nat) + 1 → Sg g M_Mo_plan Q 176 [vR 708, vU, vU, vI la, vI t, vU] [] D := fun hne hcnt => by
      have n24 : n' < 24 := by
        have evm2 := evs_mono (n := n) (r := r) (d := d) (f := fi) (show ((t + 1 : Nat) : Int) ≤ la by omega)
        omega
      refine s_Mo_plan_176 (s_Mo_plan_177 ⟨fun q => absurd rfl q, fun _ => ⟨by omega, fun D3 e3 => ⟨⟨by omega, by rw [e3, zw_off (by omega)]; omega⟩, fun D7 e7 => ⟨⟨by omega, by rw [e7, zw_off (by omega), e3, zw_off (by omega)]; omega⟩, fun D11 e11 => ?_⟩⟩⟩⟩)
      have k3 : D3 708 = D 708 := by rw [e3, zw_off (by omega)]
      have k7 : D7 708 = D 708 := by rw [e7, zw_off (by omega), k3]
      have i3 : D3 708 20 = n' := by rw [k3]; exact p1
      have i7 : D7 708 20 = n' := by rw [k7]; exact p1
      have k11 : D11 708 = D 708 := by rw [e11, zw_off (by omega), k7]
      have v717 : D11 717 t = (x t).num := by rw [e11, zw_off (by omega), e7, zw_off (by omega), e3, zw_off (by omega), e717]; exact ct.1
      have v718 : D11 718 t = (((x t).den : Nat) : Int) := by rw [e11, zw_off (by omega), e7, zw_off (by omega), e3, zw_off (by omega), e718]; exact ct.2
      have xn : 0 ≤ (x t).num := Rat.num_nonneg.mpr (hxn t ht)
      rw [k11, p1, v717, v718]
      refine ⟨⟨by unfold R32; omega, by omega, by omega⟩, ?_⟩
      refine (mtell_ok (f := 0 + (n' : Int)) (by omega) xn rat_dpos).mono fun D12 r12 => ?_
      obtain ⟨ra, rb⟩ := r12
      rw [← rat_nd] at ra
      have o : ∀ c, c ≠ 709 → c ≠ 710 → D12 c = D11 c := rb.1
      have d12 : D12 708 20 = n' := by rw [o 708 (by omega) (by omega), k11]; exact p1
      refine s_Mo_plan_251 ⟨by rw [d12]; unfold R32; omega, fun D2 e2' => ?_⟩
      have g2 : ∀ c, c ≠ 708 → D2 c = D12 c := fun c hc => by rw [e2', zw_off hc]
      have sep : ∀ i : Nat, i < n' → (2 * (0 + (i : Int)) + 1 < 2 * (0 + (n' : Int)) ∨ 2 * (0 + (n' : Int)) + 2 ≤ 2 * (0 + (i : Int))) ∧ (2 * (0 + (i : Int)) + 1 < 248 ∨ 253 ≤ 2 * (0 + (i : Int))) := fun i hi => by omega
      have r11 : RF 0 48 248 253 D D11 := RF.off (by rw [e11, zw_off (by omega), e7, zw_off (by omega), e3, zw_off (by omega)]) (by rw [e11, zw_off (by omega), e7, zw_off (by omega), e3, zw_off (by omega)])
      have cell : ∀ c, c ≠ 708 → c ≠ 709 → c ≠ 710 → D2 c = D11 c := fun c c1 c2 c3 => (g2 c c1).trans (o c c2 c3)
      refine fin1 D2 _ _ _ (n' + 1) (fun i => if i = n' then t else b i) (fun i => if i = n' then t + 1 else e i) (fun i => if i = n' then x t else rt i) (by omega) (by omega) (by rw [e2', zw_eq, d12]; omega) (fun i hi => ⟨?_, fun hi2 => ?_, ?_⟩) (if_pos (by omega)) (fun i hi => ?_) ?_ hcnt (fun c c1 c2 c3 c4 => ?_) (fun k hk => ?_) ?_
      · rw [cell 723 (by omega) (by omega) (by omega), e11, zw_off (by omega), e7, zw_off (by omega), e3, p1]
        rcases (show i = n' ∨ i < n' by omega) with y | y
        · subst y; rw [zw_eq]; show _ = ((if i = i then t else b i : Nat) : Int); rw [if_pos rfl]
        · rw [zw_ne (Or.inr (by omega)), (p3 i y).1]; show _ = ((if i = n' then t else b i : Nat) : Int); rw [if_neg (by omega)]
      · rw [cell 724 (by omega) (by omega) (by omega), e11, zw_off (by omega), e7, zw_off (by omega), e3, zw_off (by omega), (p3 i (by omega)).2.1]
        show _ = ((if i = n' then t + 1 else e i : Nat) : Int)
        rw [if_neg (by omega)]
      · rcases (show i = n' ∨ i < n' by omega) with y | y
        · subst y
          show Mq D2 _ (if i = i then x t else rt i)
          rw [if_pos rfl]
          exact ra.off (g2 709 (by omega)) (g2 710 (by omega))
        · show Mq D2 _ (if i = n' then x t else rt i)
          rw [if_neg (by omega)]
          have a := (p3 i y).2.2
          exact ((a.off (by rw [e11, zw_off (by omega), e7, zw_off (by omega), e3, zw_off (by omega)]) (by rw [e11, zw_off (by omega), e7, zw_off (by omega), e3, zw_off (by omega)])).fm rb (sep i y)).off (g2 709 (by omega)) (g2 710 (by omega))
      · rcases (show i = n' ∨ i < n' by omega) with y | y
        · subst y
          show _ = (if i = i then x t else rt i).num ∧ _ = ((((if i = i then x t else rt i).den : Nat)) : Int)
          rw [if_pos rfl]
          refine ⟨?_, ?_⟩
          · rw [cell 725 (by omega) (by omega) (by omega), e11, zw_off (by omega), e7, i3, zw_eq, e3, zw_off (by omega), e717]; exact ct.1
          · rw [cell 726 (by omega) (by omega) (by omega), e11, i7, zw_eq, e7, zw_off (by omega), e3, zw_off (by omega), e718]; exact ct.2
        · show _ = (if i = n' then x t else rt i).num ∧ _ = ((((if i = n' then x t else rt i).den : Nat)) : Int)
          rw [if_neg (by omega)]
          have a := sa i y
          refine ⟨?_, ?_⟩
          · rw [cell 725 (by omega) (by omega) (by omega), e11, zw_off (by omega), e7, i3, zw_ne (Or.inr (by omega)), e3, zw_off (by omega)]; exact a.1
          · rw [cell 726 (by omega) (by omega) (by omega), e11, i7, zw_ne (Or.inr (by omega)), e7, zw_off (by omega), e3, zw_off (by omega)]; exact a.2
      · exact rn.more (fun q => by rcases cnt with c | c <;> omega) (by omega) (fun u u1 u2 => by rw [show u = t by omega]) hne (fun i _ => rfl) (fun i _ => rfl) (fun i _ => rfl)
      · rw [cell c c1 c2 c3, e11, zw_off (by omega), e7, zw_off (by omega), e3, zw_off (by omega)]; exact f1 c c1 c2 c3 c4
      · rw [e2', zw_ne (Or.inr hk), o 708 (by omega) (by omega), k11]; exact f2 k hk
      · exact ((f3.tr r11).tr (rb.rows.mono fun m _ _ => by omega)).tr (RF.off (g2 709 (by omega)) (g2 710 (by omega)))
    refine s_Mo_plan_119 ⟨fun q => by omega, fun _ => ⟨fun q => ?_, fun q => ?_⟩⟩
    · refine new (fun z => by omega) ?_
      have := evs_nn (n := n) (r := r) (d := d) (f := fi) (t := ((t + 1 : Nat) : Int))
      omega
    · rcases cnt with c | ⟨c1, c2, c3⟩
      · omega
      · obtain ⟨t', rfl⟩ : ∃ t', t = t' + 1 := ⟨t - 1, by omega⟩
        have ct' := hc t' (by omega)
        have em : ((t' + 1 : Nat) : Int) - 1 = (t' : Int) := by omega
        rw [em, e717, e718, ct.1, ct.2, ct'.1, ct'.2]
        have last : rt (n' - 1) = x t' := by
          have h3 := rn.2.2.1 (n' - 1) (by omega)
          have h2 := rn.2.1 (by omega)
          exact (h3.2 t' (by omega) (by omega)).symm
        have dif : x (t' + 1) ≠ x t' → Sg g M_Mo_plan Q 176 [vR 708, vU, vU, vI la, vI (t' + 1 : Nat), vU] [] D := fun z => by
          refine new (fun _ y => z (by rw [← y, last])) ?_
          have gne : gs t' ≠ gs (t' + 1) := fun y => z (by rw [hx]; unfold spd; rw [y])
          have et := pc.2.2.2.2.2.2.2.2.2.2.1 t' ht gne
          have := evs_more (n := n) (r := r) (d := d) (f := (fi : Int)) et (by omega) (show ((t' + 1 : Nat) : Int) < ((t' + 1 + 1 : Nat) : Int) by omega)
          omega
        have r1 : R32 (((t' + 1 : Nat) : Int) - 1) := by unfold R32; omega
        refine ⟨⟨by omega, by rw [← em]; exact r1, by omega⟩, fun q1 => dif fun z => q1 (by rw [z]), fun q1 => ⟨⟨by omega, by rw [← em]; exact r1, by omega⟩, fun q2 => dif fun z => q2 (by rw [z]), fun q2 => ?_⟩⟩
        have xe : x (t' + 1) = x t' := rat_eq_iff.mp ⟨q1, q2⟩
        refine s_Mo_plan_177 ⟨fun _ => ?_, fun q => by omega⟩
        refine fin1 D _ _ _ n' b (fun i => if i = n' - 1 then t' + 1 + 1 else e i) rt p2 c1 p1 (fun i hi => ⟨(p3 i hi).1, fun hi2 => ?_, (p3 i hi).2.2⟩) (if_pos rfl) sa ?_ ?_ f1 f2 f3
        · rw [(p3 i hi).2.1]
          show _ = ((if i = n' - 1 then t' + 1 + 1 else e i : Nat) : Int)
          rw [if_neg (by omega)]
        · exact rn.long (by omega) (by omega) (fun u u1 u2 => by rw [show u = t' + 1 by omega, xe]) last (fun i hi => rfl)
        · have evm2 := evs_mono (n := n) (r := r) (d := d) (f := fi) (show ((t' + 1 : Nat) : Int) ≤ (t' + 1 + 1 : Nat) by omega)
          omega
end MPLAN7
