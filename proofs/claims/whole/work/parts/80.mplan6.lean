/-! the model: workPlan -/
theorem edf_idle {n : Nat} {r d w : Nat → Int} {pl : Nat → Nat} {x : Nat → Rat} (hpl : Pl n d pl) (hw : ∀ j, j < n → 0 < w j) {a : Nat} : ∀ (k : Nat), (∀ u, a ≤ u → u < a + k → x u = 0) → ∀ j, j < n → edf n pl r w x (a + k) j = edf n pl r w x a j
  | 0, _, j, hj => rfl
  | k + 1, h, j, hj => by
    have ih := edf_idle hpl hw (r := r) (x := x) (a := a) k (fun u u1 u2 => h u u1 (by omega)) j hj
    have inv := edf_inv (r := r) (x := x) hpl hw (a + k)
    show nx n pl _ (x (a + k)) (edf n pl r w x (a + k)) j = _
    rw [h (a + k) (by omega) (by omega), nx_zero hpl inv.1 j hj, ih]
/-- up to a time all is worked off -/
def WP (n : Nat) (r w : Nat → Int) (pl : Nat → Nat) (x : Nat → Rat) (fi : Nat) (D0 : DD) (t : Nat) (D : DD) : Prop :=
  (∀ c, c ≠ 709 → c ≠ 710 → c ≠ 722 → c ≠ 727 → D c = D0 c) ∧ RF 96 120 248 253 D0 D ∧
  (∀ j : Nat, j < n → (D 722 j : Rat) = edf n pl r w x t j * (D0 721 j : Rat)) ∧
  (∀ j : Nat, j < n → edf n pl r w x t j = 0 → ∃ y, En n r w pl x j y ∧ Mq D (48 + j) y) ∧
  (∀ u : Nat, fi ≤ u → u < t → Wk n r w pl x u (D 727 u)) ∧ ∀ u : Nat, (u < fi ∨ t ≤ u) → D 727 u = D0 727 u
section MPLAN6
variable {g : GG} {D D0 : DD} {n : Nat} {r d w gs gj : Nat → Int} {G : Int} {W T : Int → Int} {pl : Nat → Nat} {x : Nat → Rat}
theorem workPlan_loop (f : JF n r d w pl) (h0 : JM D0 n r d w) (c : Cert n r d w gs gj G W T) (hx : x = spd gs W T) (hc : ∀ t : Nat, t < 200 → D0 717 t = (x t).num ∧ D0 718 t = (((x t).den : Nat) : Int)) (hj : ∀ j : Nat, j < n → D0 721 j = (((sdk W T (gj j)).den : Nat) : Int)) {fi la : Nat} (hla : la ≤ 200) (hw : ∀ u : Nat, u < 200 → D0 727 u = -1) :
    ∀ (m t : Nat) (D : DD) (z1 z4 z5 z6 z7 z8 : VV), t + m = max fi la → fi ≤ t → WP n r w pl x fi D0 t D → Sg g M_Mo_workPlan (rV (fun D' => WP n r w pl x fi D0 (max fi la) D')) 38 [vR 708, z1, vI la, vI t, z4, z5, z6, z7, z8] [] D := by
  have hn := f.1
  have hpl := f.2.2.2
  intro m
  induction m with
  | zero =>
    intro t D z1 z4 z5 z6 z7 z8 hm hft h
    obtain rfl : t = max fi la := by omega
    exact s_Mo_workPlan_38 ⟨fun _ => retV h, fun q => by omega⟩
  | succ m ih =>
    intro t D z1 z4 z5 z6 z7 z8 hm hft h
    have ht : t < 200 := by omega
    obtain ⟨a1, a2, a3, a4, a5, a6⟩ := id h
    have inv := plan_inv c hpl t (by omega)
    rw [← hx] at inv
    have e717 : D 717 t = (x t).num := by rw [a1 717 (by omega) (by omega) (by omega) (by omega)]; exact (hc t ht).1
    have jm : JM D n r d w := h0.of (by rw [a1 708 (by omega) (by omega) (by omega) (by omega)]) fun c c1 c2 => a1 c (by omega) (by omega) (by omega) (by omega)
    have xn : 0 ≤ x t := by rw [hx]; exact c.spn ht
    refine s_Mo_workPlan_38 ⟨fun q => by omega, fun _ => ⟨by omega, ?_⟩⟩
    rw [e717]
    refine ⟨fun q => ?_, fun q => ?_⟩
    · -- nothing is done
      have x0 : x t = 0 := by
        have := Rat.num_nonneg.mpr xn
        exact Rat.num_eq_zero.mp (by omega)
      refine s_Mo_workPlan_71 ⟨by omega, fun D2 e2 => ⟨by omega, ?_⟩⟩
      rw [show D2 727 (t : Int) = -1 by rw [e2, zw_eq]]
      refine s_Mo_workPlan_80 ⟨fun _ => s_Mo_workPlan_206 ⟨by unfold R32; omega, ih (t + 1) D2 _ _ _ _ _ _ (by omega) (by omega) ?_⟩, fun q => by omega⟩
      have e : ∀ j, j < n → edf n pl r w x (t + 1) j = edf n pl r w x t j := fun j hj => by
        show nx n pl _ (x t) _ j = _
        rw [x0]; exact nx_zero hpl inv.1 j hj
      have mr2 : ∀ m, mr D2 m = mr D m := fun m => by unfold mr; rw [e2, zw_off (by omega)]
      have d710 : D2 710 = D 710 := by rw [e2, zw_off (by omega)]
      refine ⟨fun c c1 c2 c3 c4 => by rw [e2, zw_off c4]; exact a1 c c1 c2 c3 c4, a2.tr (RF.off (by rw [e2, zw_off (by omega)]) d710), fun j hj => by rw [e j hj, e2, zw_off (by omega)]; exact a3 j hj, fun j hj z => ?_, fun u u1 u2 => ?_, fun u hu => ?_⟩
      · rw [e j hj] at z
        obtain ⟨y, y1, y2⟩ := a4 j hj z
        exact ⟨y, y1, y2.1.of (by rw [d710]) (fun j _ _ => by rw [mr2]), y2.2.of (by rw [d710]) (fun j _ _ => by rw [mr2])⟩
      · rcases (show u = t ∨ u < t by omega) with y | y
        · subst y; exact Or.inl ⟨x0, by rw [e2, zw_eq]⟩
        · rw [e2, zw_ne (Or.inr (by omega))]; exact a5 u u1 y
      · rw [e2, zw_ne (Or.inr (by omega))]; exact a6 u (by omega)
    · -- a group's time
      have xp : 0 < x t := by
        rcases Rat.le_iff_lt_or_eq.mp xn with y | y
        · exact y
        · rw [← y] at q; exact absurd (show (0 : Rat).num ≤ 0 from Int.le_refl _) q
      have hg : 0 ≤ gs t := by
        refine Decidable.byContradiction fun z => ?_
        rw [hx] at xp
        unfold spd at xp
        rw [if_pos (by omega)] at xp
        exact absurd xp Rat.lt_irrefl
      have gb := (c.gs0 t ht).2
      have xs : x t = sdk W T (gs t) := by rw [hx]; exact if_neg (by omega)
      have W1 := c.Wb hn f.2.2.1 hg gb
      have T1 := c.Tb hg gb
      have same : ∀ p, p ≤ n → min (cum (fun j => gj j = gs t ∧ r j ≤ (t : Int)) (edf n pl r w x t) pl p) (x t) = min (cum (fun j => r j ≤ (t : Int)) (edf n pl r w x t) pl p) (x t) := fun p hp => by rw [xs]; exact inv.same c hpl ht hg hp
      have fu := inv.full c hpl ht hg
      rw [← xs] at fu
      have fua : x t ≤ cum (fun j => r j ≤ (t : Int)) (edf n pl r w x t) pl n := by
        have := same n (Nat.le_refl n)
        grind
      have ll := low_le (p := W (gs t)) (q := T (gs t)) (by omega) T1.1
      have xe : x t = (W (gs t) : Rat) / (T (gs t) : Rat) := xs
      rw [← xe] at ll
      have dp := rat_dpos (x := x t)
      have dq : (0 : Rat) < ((((x t).den : Nat) : Int) : Rat) := Rat.intCast_pos.mpr dp
      have Sd : x t * ((((x t).den : Nat) : Int) : Rat) = ((x t).num : Rat) := by
        have e := Rat.div_mul_cancel (a := ((x t).num : Rat)) (b := ((((x t).den : Nat) : Int) : Rat)) (by intro z; rw [z] at dq; exact absurd dq Rat.lt_irrefl)
        rwa [← rat_nd] at e
      have dpj : ∀ j, j < n → (0 : Rat) < (D0 721 j : Rat) := fun j hj' => by
        rw [hj j hj']
        exact Rat.intCast_pos.mpr rat_dpos
      refine (nextJob_ok f jm).mono fun y D1 r1 => ?_
      obtain ⟨rfl, nj⟩ := r1
      refine s_Mo_workPlan_67 (s_Mo_workPlan_71 ⟨by omega, fun D2 e2 => ⟨by omega, ?_⟩⟩)
      rw [show D2 727 (t : Int) = y by rw [e2, zw_eq]]
      have jm2 : JM D2 n r d w := jm.of (by rw [e2, zw_off (by omega)]) fun c c1 c2 => by rw [e2, zw_off (by omega)]
      have e722 : D2 722 = D1 722 := by rw [e2, zw_off (by omega)]
      have nj2 : NJ D2 n r pl t y := by unfold NJ; rw [e722]; exact nj
      have mr2 : ∀ m, mr D2 m = mr D1 m := fun m => by unfold mr; rw [e2, zw_off (by omega)]
      have d710 : D2 710 = D1 710 := by rw [e2, zw_off (by omega)]
      -- who begins
      have noR : ∀ j : Nat, j < n → D1 722 j ≤ 0 → edf n pl r w x t j = 0 := fun j hj' z => by
        have e := a3 j hj'
        have c1 : (D1 722 j : Rat) ≤ 0 := Rat.intCast_le_intCast.mpr z
        rw [e] at c1
        have : edf n pl r w x t j ≤ 0 := by
          refine Rat.le_of_mul_le_mul_right ?_ (dpj j hj')
          rw [Rat.zero_mul]; exact c1
        have := inv.1 j hj'
        grind
      have who : Wk n r w pl x t y := by
        rcases nj with ⟨j1, j2⟩ | ⟨p', p1, p2, p3, p4, p5⟩
        · exfalso
          have z : cum (fun j => r j ≤ (t : Int)) (edf n pl r w x t) pl n ≤ 0 := by
            have := sp_le (P := fun q => r (pl q) ≤ (t : Int)) (f := fun q => edf n pl r w x t (pl q)) (P' := fun q => r (pl q) ≤ (t : Int)) (h := fun _ => 0) (n := n) (fun i hi q => ⟨q, by rw [noR _ (hpl.1 i hi) (j2 _ (hpl.1 i hi) q)]; exact Rat.le_refl⟩) (fun i hi _ _ => Rat.le_refl)
            rw [sp_c, Rat.zero_mul] at this
            exact this
          grind
        · have z : cum (fun j => r j ≤ (t : Int)) (edf n pl r w x t) pl p' = 0 := by
            have := sp_congr (P := fun q => r (pl q) ≤ (t : Int)) (f := fun q => edf n pl r w x t (pl q)) (P' := fun q => r (pl q) ≤ (t : Int)) (h := fun _ => 0) (n := p') (fun i hi => Iff.rfl) (fun i hi q => noR _ (hpl.1 i (by omega)) (p5 i hi q))
            rw [sp_c, Rat.zero_mul] at this
            exact this
          have Rp : 0 < edf n pl r w x t (pl p') := by
            have e := a3 (pl p') (hpl.1 p' p1)
            have c1 : (0 : Rat) < (D1 722 (pl p') : Rat) := Rat.intCast_pos.mpr p4
            rw [e] at c1
            have := inv.1 (pl p') (hpl.1 p' p1)
            rcases Rat.le_iff_lt_or_eq.mp this with y | y
            · exact y
            · rw [← y, Rat.zero_mul] at c1; exact absurd c1 Rat.lt_irrefl
          have c1 := cum_t (R := edf n pl r w x t) (pl := pl) (el := fun j => r j ≤ (t : Int)) (p := p') p3
          refine Or.inr ⟨xp, p', p1, p2, ?_, ?_⟩
          · rw [z]; grind
          · rw [c1, z]; grind
      refine workPlan_walk f jm2 ht (A := (x t).num) (B := (((x t).den : Nat) : Int)) (S := x t) (R := edf n pl r w x t) (den := fun j => (D0 721 j : Rat)) (by rw [e2, zw_off (by omega)]; exact e717) ⟨by omega, by omega⟩ dp Sd inv.1 dpj ?_ fua ?_ n 0 0 y D2 _ _ _ (by omega) (by omega) (by rw [cum_0]; exact Rat.le_of_lt xp) ?_ nj2
      · -- its jobs are the group's
        intro p hp rp Rp cp
        have s0 := same p (by omega)
        have s1 := same (p + 1) (by omega)
        have c1 := cum_t (R := edf n pl r w x t) (pl := pl) (el := fun j => r j ≤ (t : Int)) (p := p) rp
        have gg : gj (pl p) = gs t := by
          refine Decidable.byContradiction fun z => ?_
          have c2 := cum_f (R := edf n pl r w x t) (pl := pl) (el := fun j => gj j = gs t ∧ r j ≤ (t : Int)) (p := p) (fun y => z y.1)
          rw [c2] at s1
          rw [c1] at s1
          grind
        show (D0 721 (pl p) : Rat) = _
        rw [hj (pl p) (hpl.1 p hp), gg, ← xs]
      · -- behind the time
        intro D3 z4 z6 z7 wm
        refine s_Mo_workPlan_206 ⟨by unfold R32; omega, ih (t + 1) D3 _ _ _ _ _ _ (by omega) (by omega) ?_⟩
        obtain ⟨b1, b2, b3, b4, b5, b6⟩ := wm
        have snx : ∀ j, nx n pl (fun j => r j ≤ (t : Int)) (x t) (edf n pl r w x t) j = edf n pl r w x (t + 1) j := fun j => rfl
        refine ⟨fun c c1 c2 c3 c4 => by rw [b1 c c1 c2 c3, e2, zw_off c4]; exact a1 c c1 c2 c3 c4, (a2.tr (RF.off (by rw [e2, zw_off (by omega)]) d710)).tr b2, fun j hj' => ?_, fun j hj' z => ?_, fun u u1 u2 => ?_, fun u hu => ?_⟩
        · obtain ⟨q, hq, rfl⟩ := hpl.2.2 j hj'
          have := b4 q hq
          rw [if_pos hq, snx] at this
          exact this
        · obtain ⟨q, hq, rfl⟩ := hpl.2.2 j hj'
          have rn := inv.1 _ hj'
          rcases Classical.em (edf n pl r w x t (pl q) = 0) with y0 | y0
          · obtain ⟨v, v1, v2⟩ := a4 _ hj' y0
            have v3 : Mq D2 (48 + pl q) v := ⟨v2.1.of (by rw [d710]) (fun j _ _ => by rw [mr2]), v2.2.of (by rw [d710]) (fun j _ _ => by rw [mr2])⟩
            have u := b6 q hq (Or.inr fun z => by rw [y0] at z; exact absurd z.1 Rat.lt_irrefl)
            have u1 := u (2 * (48 + (pl q : Int))) (by omega) (by omega)
            have u2 := u (2 * (48 + (pl q : Int)) + 1) (by omega) (by omega)
            exact ⟨v, v1, v3.1.of u1.1 u1.2, v3.2.of u2.1 u2.2⟩
          · have rp : 0 < edf n pl r w x t (pl q) := by grind
            exact ⟨_, ⟨t, q, ht, hq, rfl, rp, z, rfl⟩, b5 q hq hq rp (by rw [snx]; exact z)⟩
        · rw [b1 727 (by omega) (by omega) (by omega), e2]
          rcases (show u = t ∨ u < t by omega) with y | y
          · subst y; rw [zw_eq]; exact who
          · rw [zw_ne (Or.inr (by omega))]; exact a5 u u1 y
        · rw [b1 727 (by omega) (by omega) (by omega), e2, zw_ne (Or.inr (by omega))]; exact a6 u (by omega)
      · -- at its beginning
        refine ⟨fun c _ _ _ => rfl, RF.rf, ?_, fun q hq => ?_, fun q _ q0 => by omega, fun q hq _ m _ _ => ⟨rfl, fun _ _ _ => rfl⟩⟩
        · rw [cum_0, show min (0 : Rat) (x t) = 0 by grind, Rat.zero_mul]; rfl
        · rw [if_neg (by omega), e722]
          exact a3 _ (hpl.1 q hq)
theorem workPlan_left (f : JF n r d w pl) (h0 : JM D0 n r d w) {la : Int} {fi : Int} {Q : Option VV → EE → DD → Prop} (hb : ∀ j : Nat, j < n → 0 < D0 721 j ∧ D0 721 j ≤ 200) (hk : ∀ D, FR 722 723 722 723 D0 D → (∀ j : Nat, j < n → D 722 j = w j * D0 721 j) → Sg g M_Mo_workPlan Q 38 [vR 708, vI fi, vI la, vI fi, vU, vU, vU, vU, vU] [] D) :
    ∀ (m j : Nat) (D : DD) (z4 z5 z6 z7 z8 : VV), j + m = n → FR 722 723 722 723 D0 D → (∀ i : Nat, i < n → i < j → D 722 i = w i * D0 721 i) → Sg g M_Mo_workPlan Q 2 [vR 708, vI fi, vI la, vI j, z4, z5, z6, z7, z8] [] D := by
  have hn := f.1
  intro m
  induction m with
  | zero =>
    intro j D z4 z5 z6 z7 z8 hm hF hI
    have e := h0.1
    rw [← hF 708 (by omega) (by omega)] at e
    exact s_Mo_workPlan_2 ⟨fun _ => hk D hF fun i hi => hI i hi (by omega), fun q => by omega⟩
  | succ m ih =>
    intro j D z4 z5 z6 z7 z8 hm hF hI
    have e := h0.1
    rw [← hF 708 (by omega) (by omega)] at e
    have hj : j < n := by omega
    have e713 : D 713 j = w j := by rw [hF 713 (by omega) (by omega)]; exact (h0.2 j hj).2.2
    have e721 : D 721 j = D0 721 j := by rw [hF 721 (by omega) (by omega)]
    have wj := f.2.2.1 j hj
    have bj := hb j hj
    refine s_Mo_workPlan_2 ⟨fun q => by omega, fun _ => ?_⟩
    rw [e713, e721]
    have m1 : w j * D0 721 j ≤ 1000 * 200 := Int.mul_le_mul wj.2 bj.2 (by omega) (by omega)
    have m2 := Int.mul_nonneg (show 0 ≤ w j by omega) (show 0 ≤ D0 721 j by omega)
    refine ⟨⟨by omega, by omega, by unfold R64; omega, by omega⟩, fun D6 e6 => ⟨by unfold R32; omega, ih (j + 1) D6 _ _ _ _ _ (by omega) (by rw [e6]; exact hF.tr (FR.w (by omega))) fun i hi hij => ?_⟩⟩
    rcases (show i = j ∨ i < j by omega) with y | y
    · rw [y, e6, zw_eq]
    · rw [e6, zw_ne (Or.inr (by omega))]; exact hI i hi y
theorem workPlan_ok (f : JF n r d w pl) (h0 : JM D n r d w) (c : Cert n r d w gs gj G W T) (hx : x = spd gs W T) (hc : ∀ t : Nat, t < 200 → D 717 t = (x t).num ∧ D 718 t = (((x t).den : Nat) : Int)) (hj : ∀ j : Nat, j < n → D 721 j = (((sdk W T (gj j)).den : Nat) : Int)) {fi la : Nat} (hla : la ≤ 200) (hw : ∀ u : Nat, u < 200 → D 727 u = -1) (out : ∀ t, t < 200 → t < fi ∨ la ≤ t → x t = 0) (hfi : ∀ j, j < n → (fi : Int) ≤ r j) :
    CV g M_Mo_workPlan [vR 708, vI fi, vI la] D (fun D' => (∀ c, c ≠ 709 → c ≠ 710 → c ≠ 722 → c ≠ 727 → D' c = D c) ∧ RF 96 120 248 253 D D' ∧ (∀ j : Nat, j < n → ∃ y, En n r w pl x j y ∧ Mq D' (48 + j) y) ∧ ∀ u : Nat, u < 200 → Wk n r w pl x u (D' 727 u)) := by
  have hpl := f.2.2.2
  have hwp : ∀ j, j < n → 0 < w j := fun j hj => (f.2.2.1 j hj).1
  refine CV.mono (P := fun D' => ∃ D1, FR 722 723 722 723 D D1 ∧ WP n r w pl x fi D1 (max fi la) D') (CV.intro mc_Mo_workPlan (Nat.le_of_ble_eq_true rfl) rfl (s_Mo_workPlan_0 (workPlan_left f h0 (fun j hj' => ?_) (fun D1 F1 I1 => ?_) n 0 D _ _ _ _ _ (by omega) FR.rf (fun i _ hi => by omega)))) ?_
  · rw [hj j hj']
    have g := c.gj0 j hj'
    have t1 := c.Tb g.1 g.2
    have w1 := c.Wb f.1 f.2.2.1 g.1 g.2
    have ll := low_le (p := W (gj j)) (q := T (gj j)) (by omega) t1.1
    have dp := rat_dpos (x := sdk W T (gj j))
    have e : sdk W T (gj j) = (W (gj j) : Rat) / (T (gj j) : Rat) := rfl
    rw [← e] at ll
    exact ⟨dp, by omega⟩
  · have e : ∀ c, c ≠ 722 → D1 c = D c := fun c h => F1 c (by omega) (by omega)
    have inv := edf_inv (r := r) (x := x) hpl hwp fi
    refine zg_post (workPlan_loop f (h0.of (by rw [e 708 (by omega)]) fun c c1 c2 => e c (by omega)) c hx (fun t ht => by rw [e 717 (by omega), e 718 (by omega)]; exact hc t ht) (fun j hj' => by rw [e 721 (by omega)]; exact hj j hj') (fi := fi) hla (fun u hu => by rw [e 727 (by omega)]; exact hw u hu) (max fi la - fi) fi D1 _ _ _ _ _ _ (by omega) (Nat.le_refl fi) ⟨fun _ _ _ _ _ => rfl, RF.rf, fun j hj' => ?_, fun j hj' z => ?_, fun u u1 u2 => by omega, fun _ _ => rfl⟩) ?_
    · rw [I1 j hj', inv.2.1 j hj' (hfi j hj'), e 721 (by omega), Rat.intCast_mul]
    · rw [inv.2.1 j hj' (hfi j hj')] at z
      have := Rat.intCast_eq_zero_iff.mp z
      have := hwp j hj'
      omega
    · rintro _ _ _ ⟨q1, q2, q3⟩
      exact ⟨q1, q2, D1, F1, q3⟩
  · rintro D' ⟨D1, F1, a1, a2, a3, a4, a5, a6⟩
    have e : ∀ c, c ≠ 722 → D1 c = D c := fun c h => F1 c (by omega) (by omega)
    refine ⟨fun c c1 c2 c3 c4 => (a1 c c1 c2 c3 c4).trans (e c c3), (RF.off (e 709 (by omega)) (e 710 (by omega))).tr a2, fun j hj' => a4 j hj' ?_, fun u hu => ?_⟩
    · have dn := c.done hpl j hj'
      rw [← hx] at dn
      rcases Nat.lt_or_ge (max fi la) 200 with y | y
      · have := edf_idle hpl hwp (r := r) (x := x) (a := max fi la) (200 - max fi la) (fun u u1 u2 => out u (by omega) (by omega)) j hj'
        rw [show max fi la + (200 - max fi la) = 200 by omega] at this
        rw [← this]; exact dn
      · have := f.2.1 j hj'
        have := hfi j hj'
        rw [show max fi la = 200 by omega]; exact dn
    · rcases Classical.em (fi ≤ u ∧ u < max fi la) with y | y
      · exact a5 u y.1 y.2
      · rw [a6 u (by omega), e 727 (by omega)]
        exact Or.inl ⟨out u hu (by omega), hw u hu⟩
end MPLAN6
