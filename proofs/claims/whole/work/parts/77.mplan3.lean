/-! the model: fixBest, what it writes -/
/-- what holds of the model's groups -/
def MG (D : DD) (n : Nat) (r d w gs gj : Nat → Int) (G : Int) (W T : Int → Int) : Prop :=
  PCert n r d w gs gj G W T ∧
  (∀ t : Nat, t < 200 → D 716 t = (if gs t < 0 then 0 else 1) ∧ D 717 t = (spd gs W T t).num ∧ D 718 t = (((spd gs W T t).den : Nat) : Int)) ∧
  (∀ j : Nat, j < n → D 719 j = (if gj j < 0 then 0 else 1) ∧ (0 ≤ gj j → D 720 j = (sdk W T (gj j)).num ∧ D 721 j = (((sdk W T (gj j)).den : Nat) : Int)))
section MPLAN3
variable {g : GG} {D D0 : DD} {n : Nat} {r d w : Nat → Int} {pl : Nat → Nat} {gs gj : Nat → Int}
theorem fb_jobs (f : JF n r d w pl) (h : JM D0 n r d w) (hf : ∀ t : Nat, t < 200 → (D0 716 t = 0 ↔ gs t = -1)) (hd : ∀ j : Nat, j < n → (D0 719 j = 0 ↔ gj j < 0)) {Q : Option VV → EE → DD → Prop} {BW BT by_ : Int} {u v : Nat} (hv : v ≤ 200) (h1 : 0 ≤ BW) (h2 : 0 ≤ BT) (h3 : 0 < by_)
    (hk : ∀ D, FR 720 723 720 723 D0 D → (∀ j : Nat, j < n → (gj j < 0 ∧ ino gs r d u v j = 0 → D 720 j = BW / by_ ∧ D 721 j = BT / by_ ∧ D 722 j = 1) ∧ (¬ (gj j < 0 ∧ ino gs r d u v j = 0) → D 720 j = D0 720 j ∧ D 721 j = D0 721 j ∧ D 722 j = 0)) →
      Sg g M_Mo_fixBest Q 278 [vR 708, vL BW, vU, vL BT, vU, vI u, vI v, vL by_, vU, vI 0, vU, vU, vU, vU, vU] [] D) :
    ∀ (m j : Nat) (D : DD) (z10 z11 z12 z13 z14 : VV), j + m = n → FR 720 723 720 723 D0 D → (∀ i : Nat, i < n → (i < j ∧ (gj i < 0 ∧ ino gs r d u v i = 0) → D 720 i = BW / by_ ∧ D 721 i = BT / by_ ∧ D 722 i = 1) ∧ (¬ (i < j ∧ (gj i < 0 ∧ ino gs r d u v i = 0)) → D 720 i = D0 720 i ∧ D 721 i = D0 721 i ∧ (i < j → D 722 i = 0))) →
      Sg g M_Mo_fixBest Q 206 [vR 708, vL BW, vU, vL BT, vU, vI u, vI v, vL by_, vU, vI j, z10, z11, z12, z13, z14] [] D := by
  have hn := f.1
  intro m
  induction m with
  | zero =>
    intro j D z10 z11 z12 z13 z14 hm hF hI
    have e := h.1
    rw [← hF 708 (by omega) (by omega)] at e
    refine s_Mo_fixBest_206 ⟨fun _ => hk D hF fun i hi => ⟨fun z => (hI i hi).1 ⟨by omega, z⟩, fun z => ?_⟩, fun q => by omega⟩
    have := (hI i hi).2 fun y => z y.2
    exact ⟨this.1, this.2.1, this.2.2 (by omega)⟩
  | succ m ih =>
    intro j D z10 z11 z12 z13 z14 hm hF hI
    have e := h.1
    rw [← hF 708 (by omega) (by omega)] at e
    have hj : j < n := by omega
    have jm : JM D n r d w := h.of (by rw [hF 708 (by omega) (by omega)]) fun c c1 c2 => hF c (by omega) (by omega)
    refine s_Mo_fixBest_206 ⟨fun q => by omega, fun _ => ?_⟩
    refine (mWithin_ok f jm (fun t ht => by rw [hF 716 (by omega) (by omega)]; exact hf t ht) hj hv (by rw [hF 719 (by omega) (by omega)]; exact hd j hj)).mono fun y D2 r2 => ?_
    obtain ⟨rfl, rfl⟩ := r2
    refine s_Mo_fixBest_225 ⟨fun q => ⟨by omega, fun D3 e3 => s_Mo_fixBest_269 ⟨by unfold R32; omega, ih (j + 1) D3 _ _ _ _ _ (by omega) ?_ fun i hi => ?_⟩⟩, fun q => ⟨⟨⟨h1, h3⟩, by omega⟩, fun D7 e7 => ⟨⟨⟨h2, h3⟩, by omega⟩, fun D11 e11 => ⟨by omega, fun D14 e14 => s_Mo_fixBest_269 ⟨by unfold R32; omega, ih (j + 1) D14 _ _ _ _ _ (by omega) ?_ fun i hi => ?_⟩⟩⟩⟩⟩
    · rw [e3]; exact hF.tr (FR.w (by omega))
    · have ns : ¬ (gj j < 0 ∧ ino gs r d u v j = 0) := fun z => by rw [if_pos z] at q; omega
      have a := hI i hi
      rw [e3, zw_off (by omega), zw_off (by omega)]
      refine ⟨fun z => ?_, fun z => ?_⟩
      · have ij : i ≠ j := fun y => by rw [y] at z; exact ns z.2
        rw [zw_ne (Or.inr (by omega))]
        exact a.1 ⟨by omega, z.2⟩
      · have b := a.2 fun y => z ⟨by omega, y.2⟩
        refine ⟨b.1, b.2.1, fun y => ?_⟩
        rcases (show i = j ∨ i < j by omega) with x | x
        · rw [x, zw_eq]
        · rw [zw_ne (Or.inr (by omega))]; exact b.2.2 x
    · rw [e14, e11, e7]; exact ((hF.tr (FR.w (by omega))).tr (FR.w (by omega))).tr (FR.w (by omega))
    · have ns : gj j < 0 ∧ ino gs r d u v j = 0 := Decidable.byContradiction fun z => by rw [if_neg z] at q; omega
      have a := hI i hi
      rcases (show i = j ∨ i ≠ j by omega) with x | x
      · subst x
        refine ⟨fun z => ⟨?_, ?_, ?_⟩, fun z => absurd ⟨by omega, ns⟩ z⟩
        · rw [e14, zw_off (by omega), e11, zw_off (by omega), e7, zw_eq]
        · rw [e14, zw_off (by omega), e11, zw_eq]
        · rw [e14, zw_eq]
      · have q1 : D14 720 i = D2 720 i := by rw [e14, zw_off (by omega), e11, zw_off (by omega), e7, zw_ne (Or.inr (by omega))]
        have q2 : D14 721 i = D2 721 i := by rw [e14, zw_off (by omega), e11, zw_ne (Or.inr (by omega)), e7, zw_off (by omega)]
        have q3 : D14 722 i = D2 722 i := by rw [e14, zw_ne (Or.inr (by omega)), e11, zw_off (by omega), e7, zw_off (by omega)]
        rw [q1, q2, q3]
        exact ⟨fun z => a.1 ⟨by omega, z.2⟩, fun z => by
          have b := a.2 fun y => z ⟨by omega, y.2⟩
          exact ⟨b.1, b.2.1, fun y => b.2.2 (by omega)⟩⟩
theorem fb_done (hn : n ≤ 12) (h : D0 708 3 = n) {Q : Option VV → EE → DD → Prop} {BW BT by_ : Int} {u v : Int}
    (hk : ∀ D z10 z11 z12 z13 z14, FR 719 720 719 720 D0 D → (∀ j : Nat, j < n → D 719 j = if D0 719 j = 0 ∧ D0 722 j ≠ 1 then 0 else 1) →
      Sg g M_Mo_fixBest Q 331 [vR 708, vL BW, vU, vL BT, vU, vI u, vI v, vL by_, vU, vI u, z10, z11, z12, z13, z14] [] D) :
    ∀ (m j : Nat) (D : DD) (z10 z11 z12 z13 z14 : VV), j + m = n → FR 719 720 719 720 D0 D → (∀ i : Nat, i < n → (i < j → D 719 i = if D0 719 i = 0 ∧ D0 722 i ≠ 1 then 0 else 1) ∧ (j ≤ i → D 719 i = D0 719 i)) →
      Sg g M_Mo_fixBest Q 278 [vR 708, vL BW, vU, vL BT, vU, vI u, vI v, vL by_, vU, vI j, z10, z11, z12, z13, z14] [] D := by
  intro m
  induction m with
  | zero =>
    intro j D z10 z11 z12 z13 z14 hm hF hI
    have e := h
    rw [← hF 708 (by omega) (by omega)] at e
    exact s_Mo_fixBest_278 ⟨fun _ => hk D _ _ _ _ _ hF fun i hi => (hI i hi).1 (by omega), fun q => by omega⟩
  | succ m ih =>
    intro j D z10 z11 z12 z13 z14 hm hF hI
    have e := h
    rw [← hF 708 (by omega) (by omega)] at e
    have hj : j < n := by omega
    have e719 := (hI j hj).2 (Nat.le_refl j)
    have e722 : D 722 j = D0 722 j := by rw [hF 722 (by omega) (by omega)]
    have go : ∀ x : Int, (0 ≤ x ∧ x ≤ 1) → x = (if D0 719 j = 0 ∧ D0 722 j ≠ 1 then 0 else 1) → Sg g M_Mo_fixBest Q 320 [vR 708, vL BW, vU, vL BT, vU, vI u, vI v, vL by_, vU, vI j, vU, vU, vU, vU, vU] [vI x, vI j, vR 719] D := fun x hx0 hx => by
      refine s_Mo_fixBest_320 ⟨⟨by omega, hx0⟩, fun D3 e3 => ⟨by unfold R32; omega, ih (j + 1) D3 _ _ _ _ _ (by omega) ?_ fun i hi => ?_⟩⟩
      · rw [e3]; exact hF.tr (FR.w (by omega))
      · have a := hI i hi
        rcases (show i = j ∨ i ≠ j by omega) with y | y
        · subst y
          exact ⟨fun _ => by rw [e3, zw_eq]; exact hx, fun z => by omega⟩
        · rw [e3, zw_ne (Or.inr (by omega))]
          exact ⟨fun z => a.1 (by omega), fun z => a.2 (by omega)⟩
    refine s_Mo_fixBest_278 ⟨fun q => by omega, fun _ => ⟨by omega, fun q => s_Mo_fixBest_315 (go 1 (by omega) ?_), fun q => ⟨by omega, fun q2 => go 0 (by omega) ?_, fun q2 => s_Mo_fixBest_315 (go 1 (by omega) ?_)⟩⟩⟩
    · rw [if_neg (by omega)]
    · rw [if_pos (by omega)]
    · rw [if_neg (by omega)]
theorem fb_times {P : Int → DD → Prop} {BW BT by_ : Int} {u v : Nat} (hv : v ≤ 200) (h1 : 0 ≤ BW) (h2 : 0 ≤ BT) (h3 : 0 < by_)
    (hk : ∀ D, FR 716 719 716 719 D0 D → (∀ t : Nat, t < 200 → (u ≤ t ∧ t < v ∧ D0 716 t = 0 → D 716 t = 1 ∧ D 717 t = BW / by_ ∧ D 718 t = BT / by_) ∧ (¬ (u ≤ t ∧ t < v ∧ D0 716 t = 0) → D 716 t = D0 716 t ∧ D 717 t = D0 717 t ∧ D 718 t = D0 718 t)) → P 1 D) :
    ∀ (m t : Nat) (D : DD) (z5 z10 z11 z12 z13 z14 : VV), t + m = max u v → u ≤ t → FR 716 719 716 719 D0 D → (∀ i : Nat, i < 200 → (i < t ∧ u ≤ i ∧ i < v ∧ D0 716 i = 0 → D 716 i = 1 ∧ D 717 i = BW / by_ ∧ D 718 i = BT / by_) ∧ (¬ (i < t ∧ u ≤ i ∧ i < v ∧ D0 716 i = 0) → D 716 i = D0 716 i ∧ D 717 i = D0 717 i ∧ D 718 i = D0 718 i)) →
      Sg g M_Mo_fixBest (rI P) 331 [vR 708, vL BW, vU, vL BT, vU, z5, vI v, vL by_, vU, vI t, z10, z11, z12, z13, z14] [] D := by
  intro m
  induction m with
  | zero =>
    intro t D z5 z10 z11 z12 z13 z14 hm hu hF hI
    refine s_Mo_fixBest_331 ⟨fun _ => retI (hk D hF fun i hi => ?_), fun q => by omega⟩
    have a := hI i hi
    exact ⟨fun z => a.1 ⟨by omega, z⟩, fun z => a.2 fun y => z y.2⟩
  | succ m ih =>
    intro t D z5 z10 z11 z12 z13 z14 hm hu hF hI
    have at_ := (hI t (by omega)).2 (by omega)
    refine s_Mo_fixBest_331 ⟨fun q => by omega, fun _ => ⟨by omega, fun q => s_Mo_fixBest_378 ⟨by unfold R32; omega, ih (t + 1) D _ _ _ _ _ _ (by omega) (by omega) hF fun i hi => ?_⟩, fun q => ⟨by omega, fun D5 e5 => ⟨⟨⟨h1, h3⟩, by omega⟩, fun D9 e9 => ⟨⟨⟨h2, h3⟩, by omega⟩, fun D13 e13 => s_Mo_fixBest_378 ⟨by unfold R32; omega, ih (t + 1) D13 _ _ _ _ _ _ (by omega) (by omega) ?_ fun i hi => ?_⟩⟩⟩⟩⟩⟩
    · have a := hI i hi
      refine ⟨fun z => ?_, fun z => a.2 fun y => z (by omega)⟩
      rcases (show i = t ∨ i < t by omega) with x | x
      · rw [x] at z; omega
      · exact a.1 ⟨x, z.2⟩
    · rw [e13, e9, e5]; exact ((hF.tr (FR.w (by omega))).tr (FR.w (by omega))).tr (FR.w (by omega))
    · have a := hI i hi
      rcases (show i = t ∨ i ≠ t by omega) with x | x
      · subst x
        refine ⟨fun z => ⟨?_, ?_, ?_⟩, fun z => absurd (show i < i + 1 ∧ u ≤ i ∧ i < v ∧ D0 716 i = 0 by omega) z⟩
        · rw [e13, zw_off (by omega), e9, zw_off (by omega), e5, zw_eq]
        · rw [e13, zw_off (by omega), e9, zw_eq]
        · rw [e13, zw_eq]
      · have q1 : D13 716 i = D 716 i := by rw [e13, zw_off (by omega), e9, zw_off (by omega), e5, zw_ne (Or.inr (by omega))]
        have q2 : D13 717 i = D 717 i := by rw [e13, zw_off (by omega), e9, zw_ne (Or.inr (by omega)), e5, zw_off (by omega)]
        have q3 : D13 718 i = D 718 i := by rw [e13, zw_ne (Or.inr (by omega)), e9, zw_off (by omega), e5, zw_off (by omega)]
        rw [q1, q2, q3]
        exact ⟨fun z => a.1 (by omega), fun z => a.2 fun y => z (by omega)⟩
/-- its groups: the ghosts -/
theorem fixBest_ok (f : JF n r d w pl) (h : JM D n r d w) {G : Int} {W T : Int → Int} (mg : MG D n r d w gs gj G W T) : CI g M_Mo_fixBest [vR 708] D (fun y D' => (y = 0 ∧ D' = D ∧ ∀ j, j < n → 0 ≤ gj j) ∨ (y = 1 ∧ FR 716 723 716 723 D D' ∧ ∃ gs' gj' W' T', MG D' n r d w gs' gj' (G + 1) W' T')) := by
  obtain ⟨pc, m1, m2⟩ := mg
  have hn := f.1
  have gb := pc.2.2.1
  have gjb := pc.2.1
  have G0 := pc.1
  have wp : ∀ j, j < n → 0 < w j := fun j hj => (f.2.2.1 j hj).1
  have hf : ∀ t : Nat, t < 200 → (D 716 t = 0 ↔ gs t = -1) := fun t ht => by
    have a := (m1 t ht).1
    have b := gb t ht
    split at a <;> omega
  have hd : ∀ j : Nat, j < n → (D 719 j = 0 ↔ gj j < 0) := fun j hj => by
    have a := (m2 j hj).1
    split at a <;> omega
  -- contained work is work within
  have fw : ∀ i k, i < n → k < n → r i < d k → fwk n r d w gj (r i) (d k) ≤ ((mwk n r d w gs gj (r i).toNat (d k).toNat : Int) : Rat) := fun i k hi hk hrd => by
    unfold mwk fwk
    rw [si_sp]
    have wi := f.2.1 i hi
    have wk := f.2.1 k hk
    refine sp_le (fun j hj q => ⟨⟨q.1, (ino_fin f.2.1 gb G0 hj).mpr fun t ht t1 t2 _ => ?_⟩, Rat.le_refl⟩) (fun j hj _ _ => Rat.intCast_nonneg.mpr (by have := wp j hj; omega))
    omega
  have ft : ∀ i k, i < n → k < n → r i < d k → gj i < 0 → gj k < 0 → ((mfr r d gs gj i k : Int) : Rat) = ftm gs (r i).toNat (d k).toNat := fun i k hi hk a b c => by
    have wi := f.2.1 i hi
    have wk := f.2.1 k hk
    unfold mfr
    rw [if_pos ⟨a, b, c⟩]
    exact cf_ftm (by omega) fun t ht => (gb t (by omega)).1
  refine CI.intro mc_Mo_fixBest (Nat.le_of_ble_eq_true rfl) rfl (s_Mo_fixBest_0 (fb_outer f h hf hd (fun no => retI (Or.inl ⟨rfl, rfl, fun j hj => ?_⟩)) (fun i k BW BT hi hk hrd gi gk hW hT hW2 hT2 eT eW hmax => ?_) n 0 (-1) (-1) 0 1 _ _ _ _ _ _ _ (by omega) ⟨by omega, by omega, fun i k _ _ q => by omega, Or.inl ⟨rfl, rfl, rfl⟩⟩))
  rotate_left
  · refine Decidable.byContradiction fun z => ?_
    have wj := f.2.1 j hj
    have bs := best_some pc f.2.1 wp hj (by omega)
    have a := no j j hj hj
    rw [← ft j j hj hj wj.2.1 (by omega) (by omega)] at bs
    have b1 : (1 : Int) ≤ mfr r d gs gj j j := Rat.intCast_le_intCast.mp bs.1
    have b2 := fw j j hj hj wj.2.1
    have b3 : (0 : Rat) < ((mwk n r d w gs gj (r j).toNat (d j).toNat : Int) : Rat) := by grind
    have b4 := Rat.intCast_pos.mp b3
    unfold msm at a
    rw [if_pos (by omega)] at a
    omega
  · have wi := f.2.1 i hi
    have wk := f.2.1 k hk
    obtain ⟨u, hu⟩ : ∃ u : Nat, r i = u := ⟨(r i).toNat, by omega⟩
    obtain ⟨v, hvv⟩ : ∃ v : Nat, d k = v := ⟨(d k).toNat, by omega⟩
    have eT2 := ft i k hi hk hrd gi gk
    rw [← eT] at eT2
    rw [hu, hvv, Int.toNat_natCast, Int.toNat_natCast] at eW eT2
    have g0 := gcdi_pos (x := BW) hT
    have rl := rat_low (p := BW) hT rfl
    have hv2 : v ≤ 200 := by omega
    rw [hu, hvv]
    refine fb_jobs f h hf hd hv2 (by omega) (by omega) g0 (fun D1 F1 I1 => ?_) n 0 D _ _ _ _ _ (by omega) FR.rf (fun i hi => ⟨fun z => by omega, fun _ => ⟨rfl, rfl, fun z => by omega⟩⟩)
    refine fb_done hn (by rw [F1 708 (by omega) (by omega)]; exact h.1) (fun D2 z10 z11 z12 z13 z14 F2 I2 => ?_) n 0 D1 _ _ _ _ _ (by omega) FR.rf (fun i hi => ⟨fun z => by omega, fun _ => rfl⟩)
    refine fb_times hv2 (by omega) (by omega) g0 (fun D3 F3 I3 => Or.inr ⟨rfl, ?_, fun t => if u ≤ t ∧ t < v ∧ gs t < 0 then G else gs t, fun j => if gj j < 0 ∧ ino gs r d u v j = 0 then G else gj j, fun q => if q = G then BW else W q, fun q => if q = G then BT else T q, ?_, fun t ht => ?_, fun j hj => ?_⟩) (max u v - u) u D2 _ _ _ _ _ _ (by omega) (Nat.le_refl u) FR.rf (fun i hi => ⟨fun z => by omega, fun _ => ⟨rfl, rfl, rfl⟩⟩)
    · exact fun c c1 c2 => by rw [F3 c (by omega) (by omega), F2 c (by omega) (by omega), F1 c (by omega) (by omega)]
    · refine pc_step pc f.2.1 wp (f := u) (t0 := v) (S := fun j => gj j < 0 ∧ ino gs r d u v j = 0) (W1 := BW) (T1 := BT) (by omega) hv2 hT hW eT2 (fun j hj q => ⟨q.1, (ino_fin f.2.1 gb G0 hj).mp q.2⟩) ?_ ?_ ⟨i, hi, Or.inl hu⟩ ⟨k, hk, Or.inr hvv⟩ (fun t ht => ⟨fun q => if_pos q, fun q => if_neg q⟩) (fun j hj => ⟨fun q => if_pos q, fun q => if_neg q⟩) (fun _ => rfl) (fun _ => rfl)
      · rw [eW]; unfold mwk; rw [si_sp]
      · refine best_max pc f.2.1 wp hT hW fun i' k' a1 a2 a3 a4 a5 a6 a7 => ?_
        have e1 := hmax i' k' a1 a2
        have e2 := fw i' k' a1 a2 a5
        have e3 := ft i' k' a1 a2 a5 a3 a4
        rw [← e3] at a6 ⊢
        have a6' : (1 : Int) ≤ mfr r d gs gj i' k' := Rat.intCast_le_intCast.mp a6
        unfold msm at e1
        rw [if_pos (by omega)] at e1
        have e4 : ((mwk n r d w gs gj (r i').toNat (d k').toNat : Int) : Rat) * (BT : Rat) ≤ (BW : Rat) * ((mfr r d gs gj i' k' : Int) : Rat) := by
          rw [← Rat.intCast_mul, ← Rat.intCast_mul]
          exact Rat.intCast_le_intCast.mpr e1
        exact Rat.le_trans (Rat.mul_le_mul_of_nonneg_right e2 (Rat.intCast_nonneg.mpr (by omega))) e4
    · have a := I3 t ht
      have b := m1 t ht
      have c := gb t ht
      have e16 : D2 716 t = D 716 t := by rw [F2 716 (by omega) (by omega), F1 716 (by omega) (by omega)]
      have e17 : D2 717 t = D 717 t := by rw [F2 717 (by omega) (by omega), F1 717 (by omega) (by omega)]
      have e18 : D2 718 t = D 718 t := by rw [F2 718 (by omega) (by omega), F1 718 (by omega) (by omega)]
      rw [e16, e17, e18] at a
      rcases Classical.em (u ≤ t ∧ t < v ∧ gs t < 0) with y | y
      · have ht0 := hf t ht
        have a1 := a.1 ⟨y.1, y.2.1, ht0.mpr (by omega)⟩
        have sp : spd (fun t => if u ≤ t ∧ t < v ∧ gs t < 0 then G else gs t) (fun q => if q = G then BW else W q) (fun q => if q = G then BT else T q) t = (BW : Rat) / (BT : Rat) := by
          unfold spd sdk
          simp only [if_pos y, if_true]
          rw [if_neg (by omega)]
        rw [sp, rl.1, rl.2]
        show D3 716 t = (if (if u ≤ t ∧ t < v ∧ gs t < 0 then G else gs t) < 0 then 0 else 1) ∧ _
        rw [if_pos y, if_neg (by omega)]
        exact a1
      · have a2 := a.2 fun z => y ⟨z.1, z.2.1, by have := (hf t ht).mp z.2.2; omega⟩
        have sp : spd (fun t => if u ≤ t ∧ t < v ∧ gs t < 0 then G else gs t) (fun q => if q = G then BW else W q) (fun q => if q = G then BT else T q) t = spd gs W T t := by
          unfold spd sdk
          simp only [if_neg y]
          split
          · rfl
          · rw [if_neg (by omega), if_neg (by omega)]
        rw [sp]
        show D3 716 t = (if (if u ≤ t ∧ t < v ∧ gs t < 0 then G else gs t) < 0 then 0 else 1) ∧ _
        rw [if_neg y, a2.1, a2.2.1, a2.2.2]
        exact b
    · have a := I2 j hj
      have b := I1 j hj
      have c := m2 j hj
      have gb2 := gjb j hj
      have e19 : D3 719 j = D2 719 j := by rw [F3 719 (by omega) (by omega)]
      have e20 : D3 720 j = D1 720 j := by rw [F3 720 (by omega) (by omega), F2 720 (by omega) (by omega)]
      have e21 : D3 721 j = D1 721 j := by rw [F3 721 (by omega) (by omega), F2 721 (by omega) (by omega)]
      have e19' : D1 719 j = D 719 j := by rw [F1 719 (by omega) (by omega)]
      rw [e19, e20, e21, a, e19']
      rcases Classical.em (gj j < 0 ∧ ino gs r d u v j = 0) with y | y
      · have b1 := b.1 y
        have sp : sdk (fun q => if q = G then BW else W q) (fun q => if q = G then BT else T q) (if gj j < 0 ∧ ino gs r d u v j = 0 then G else gj j) = (BW : Rat) / (BT : Rat) := by
          unfold sdk
          simp only [if_pos y, if_true]
        show (if D 719 j = 0 ∧ D1 722 j ≠ 1 then (0 : Int) else 1) = (if (if gj j < 0 ∧ ino gs r d u v j = 0 then G else gj j) < 0 then 0 else 1) ∧ _
        rw [sp, rl.1, rl.2, if_pos y, if_neg (by omega), if_neg (by omega)]
        exact ⟨rfl, fun _ => ⟨b1.1, b1.2.1⟩⟩
      · have b2 := b.2 y
        show (if D 719 j = 0 ∧ D1 722 j ≠ 1 then (0 : Int) else 1) = (if (if gj j < 0 ∧ ino gs r d u v j = 0 then G else gj j) < 0 then 0 else 1) ∧ _
        have sp : 0 ≤ gj j → sdk (fun q => if q = G then BW else W q) (fun q => if q = G then BT else T q) (if gj j < 0 ∧ ino gs r d u v j = 0 then G else gj j) = sdk W T (gj j) := fun z => by
          unfold sdk
          simp only [if_neg y]
          rw [if_neg (by omega), if_neg (by omega)]
        rw [if_neg y, b2.1, b2.2.1]
        refine ⟨?_, fun z => ?_⟩
        · have c1 := c.1
          split at c1
          · rw [if_pos (by omega), if_pos (by assumption)]
          · rw [if_neg (by omega), if_neg (by assumption)]
        · rw [if_neg y] at sp
          simp only [if_neg y] at z ⊢
          rw [sp z]
          exact c.2 z
end MPLAN3
