/-! the model: plan -/
/-- a job's speed: the least of its window -/
def JS (r d : Nat → Int) (x : Nat → Rat) (j : Nat) (y : Rat) : Prop := (∃ t : Nat, t < 200 ∧ r j ≤ (t : Int) ∧ (t : Int) < d j ∧ x t = y) ∧ ∀ t : Nat, t < 200 → r j ≤ (t : Int) → (t : Int) < d j → y ≤ x t
theorem JS.unique {r d : Nat → Int} {x x' : Nat → Rat} {j : Nat} {y y' : Rat} (h : JS r d x j y) (h' : JS r d x' j y') (e : ∀ t, t < 200 → x t = x' t) : y = y' := by
  obtain ⟨⟨t, t1, t2, t3, t4⟩, h2⟩ := h
  obtain ⟨⟨u, u1, u2, u3, u4⟩, h2'⟩ := h'
  have a := h2 u u1 u2 u3
  have b := h2' t t1 t2 t3
  rw [← e t t1, t4] at b
  rw [e u u1, u4] at a
  exact Rat.le_antisymm a b
theorem Cert.anti {n : Nat} {r d w gs gj : Nat → Int} {G : Int} {W T : Int → Int} (c : Cert n r d w gs gj G W T) {k : Int} (h0 : 0 ≤ k) : ∀ m : Nat, k + m < G → sdk W T (k + m) ≤ sdk W T k
  | 0, _ => by rw [Int.natCast_zero, Int.add_zero]; exact Rat.le_refl
  | m + 1, h => by
    have a := c.anti h0 m (by omega)
    have b := c.smono (k := k + m) (by omega) (by omega)
    rw [show k + ((m + 1 : Nat) : Int) = k + m + 1 by omega]
    exact Rat.le_trans b a
theorem Cert.js {n : Nat} {r d w gs gj : Nat → Int} {G : Int} {W T : Int → Int} {pl : Nat → Nat} (c : Cert n r d w gs gj G W T) (hpl : Pl n d pl) {j : Nat} (hj : j < n) : JS r d (spd gs W T) j (sdk W T (gj j)) := by
  have wj := c.win j hj
  have g := c.gj0 j hj
  refine ⟨?_, fun t ht t1 t2 => ?_⟩
  · refine Classical.byContradiction fun z => ?_
    have no : ∀ t : Nat, t < 200 → r j ≤ (t : Int) → (t : Int) < d j → gs t ≠ gj j := fun t ht t1 t2 e => z ⟨t, ht, t1, t2, by
      unfold spd
      rw [if_neg (by omega), e]⟩
    have keep : ∀ k : Nat, (r j).toNat + k ≤ (d j).toNat → edf n pl r w (spd gs W T) ((r j).toNat + k) j = (w j : Rat) := by
      intro k
      induction k with
      | zero =>
        intro _
        exact (plan_inv c hpl (r j).toNat (by omega)).2.1 j hj (by omega)
      | succ k ih =>
        intro hk
        have e := ih (by omega)
        have ht : (r j).toNat + k < 200 := by omega
        have inv := plan_inv c hpl ((r j).toNat + k) (by omega)
        have st : ∀ t, edf n pl r w (spd gs W T) (t + 1) j = nx n pl (fun j => r j ≤ (t : Int)) (spd gs W T t) (edf n pl r w (spd gs W T) t) j := fun _ => rfl
        rw [show (r j).toNat + (k + 1) = ((r j).toNat + k) + 1 from rfl, st]
        have gi := c.ins j ((r j).toNat + k) hj ht (by omega) (by omega)
        rw [show spd gs W T ((r j).toNat + k) = sdk W T (gs ((r j).toNat + k)) from if_neg (by omega), inv.same_nx c hpl ht gi.1 j hj, nx_off hpl hj (fun y => no _ ht (by omega) (by omega) y.1.symm), e]
    have e := keep ((d j).toNat - (r j).toNat) (by omega)
    rw [show (r j).toNat + ((d j).toNat - (r j).toNat) = (d j).toNat by omega] at e
    have inv := plan_inv c hpl (d j).toNat (by omega)
    have b := inv.2.2.1 (gj j) (d j).toNat g.1 g.2 (by omega)
    rw [cap_no (Nat.le_refl _), Rat.mul_zero] at b
    have o := sp_one (P := fun i => gj i = gj j ∧ d i ≤ ((d j).toNat : Int)) (f := edf n pl r w (spd gs W T) (d j).toNat) (n := n) hj ⟨rfl, by omega⟩ (fun i hi _ => inv.1 i hi)
    rw [e] at o
    have wp : (0 : Rat) < (w j : Rat) := Rat.intCast_pos.mpr (c.wp j hj)
    grind
  · have gi := c.ins j t hj ht t1 t2
    unfold spd
    rw [if_neg (by omega)]
    have := c.anti gi.1 (gj j - gs t).toNat (by omega)
    rwa [show gs t + ((gj j - gs t).toNat : Int) = gj j by omega] at this
/-- what holds of the model's plan -/
def PlM (D : DD) (n : Nat) (r d w : Nat → Int) (pl : Nat → Nat) (x : Nat → Rat) : Prop :=
  MPF D 723 724 727 0 48 108 20 n r d w pl x ∧ (∀ i : Nat, (i : Int) < D 708 20 → ∃ y, Mq D (0 + i) y ∧ D 725 i = y.num ∧ D 726 i = ((y.den : Nat) : Int)) ∧
  (∀ j : Nat, j < n → ∃ y, JS r d x j y ∧ Mq D (72 + j) y ∧ D 720 j = y.num ∧ D 721 j = ((y.den : Nat) : Int)) ∧ ∃ gs gj G W T, Cert n r d w gs gj G W T ∧ x = spd gs W T
/-- rows of AHEAD -/
def rowsA (m : Int) : Prop := (48 ≤ m ∧ m < 96) ∨ (120 ≤ m ∧ m < 144) ∨ (218 ≤ m ∧ m < 220)
section MPLAN8
variable {g : GG} {D D0 : DD} {n : Nat} {r d w gs gj : Nat → Int} {G : Int} {W T : Int → Int} {pl : Nat → Nat} {x : Nat → Rat}
theorem mplan_fill {Q : Option VV → EE → DD → Prop} (hk : ∀ D z2 z3 z4 z5, FR 716 719 727 728 D0 D → (∀ t : Nat, t < 200 → D 716 t = 0 ∧ D 717 t = 0 ∧ D 718 t = 1 ∧ D 727 t = -1) → Sg g M_Mo_plan Q 65 [vR 708, vI 0, z2, z3, z4, z5] [] D) :
    ∀ (m t : Nat) (D : DD) (z2 z3 z4 z5 : VV), t + m = 200 → FR 716 719 727 728 D0 D → (∀ u : Nat, u < t → D 716 u = 0 ∧ D 717 u = 0 ∧ D 718 u = 1 ∧ D 727 u = -1) → Sg g M_Mo_plan Q 22 [vR 708, vI t, z2, z3, z4, z5] [] D := by
  intro m
  induction m with
  | zero =>
    intro t D z2 z3 z4 z5 hm hF hI
    exact s_Mo_plan_22 ⟨fun _ => hk D _ _ _ _ hF fun u hu => hI u (by omega), fun q => by omega⟩
  | succ m ih =>
    intro t D z2 z3 z4 z5 hm hF hI
    refine s_Mo_plan_22 ⟨fun q => by omega, fun _ => ⟨by omega, fun D3 e3 => ⟨by omega, fun D6 e6 => ⟨by omega, fun D9 e9 => ⟨by omega, fun D12 e12 => ⟨by unfold R32; omega, ih (t + 1) D12 _ _ _ _ (by omega) ?_ fun u hu => ?_⟩⟩⟩⟩⟩⟩
    · rw [e12, e9, e6, e3]; exact (((hF.tr (FR.w (by omega))).tr (FR.w (by omega))).tr (FR.w (by omega))).tr (FR.w (by omega))
    · rcases (show u = t ∨ u < t by omega) with y | y
      · subst y
        refine ⟨?_, ?_, ?_, ?_⟩
        · rw [e12, zw_off (by omega), e9, zw_off (by omega), e6, zw_off (by omega), e3, zw_eq]
        · rw [e12, zw_off (by omega), e9, zw_off (by omega), e6, zw_eq]
        · rw [e12, zw_off (by omega), e9, zw_eq]
        · rw [e12, zw_eq]
      · have a := hI u y
        refine ⟨?_, ?_, ?_, ?_⟩
        · rw [e12, zw_off (by omega), e9, zw_off (by omega), e6, zw_off (by omega), e3, zw_ne (Or.inr (by omega))]; exact a.1
        · rw [e12, zw_off (by omega), e9, zw_off (by omega), e6, zw_ne (Or.inr (by omega)), e3, zw_off (by omega)]; exact a.2.1
        · rw [e12, zw_off (by omega), e9, zw_ne (Or.inr (by omega)), e6, zw_off (by omega), e3, zw_off (by omega)]; exact a.2.2.1
        · rw [e12, zw_ne (Or.inr (by omega)), e9, zw_off (by omega), e6, zw_off (by omega), e3, zw_off (by omega)]; exact a.2.2.2
theorem mplan_fill2 (hn : n ≤ 12) (h0 : D0 708 3 = n) {Q : Option VV → EE → DD → Prop} (hk : ∀ D z2 z3 z4 z5, FR 719 720 719 720 D0 D → (∀ j : Nat, j < n → D 719 j = 0) → Sg g M_Mo_plan Q 88 [vR 708, vI 1, z2, z3, z4, z5] [] D) :
    ∀ (m j : Nat) (D : DD) (z2 z3 z4 z5 : VV), j + m = n → FR 719 720 719 720 D0 D → (∀ i : Nat, i < j → D 719 i = 0) → Sg g M_Mo_plan Q 65 [vR 708, vI j, z2, z3, z4, z5] [] D := by
  intro m
  induction m with
  | zero =>
    intro j D z2 z3 z4 z5 hm hF hI
    have e := h0
    rw [← hF 708 (by omega) (by omega)] at e
    exact s_Mo_plan_65 ⟨fun _ => hk D _ _ _ _ hF fun i hi => hI i (by omega), fun q => by omega⟩
  | succ m ih =>
    intro j D z2 z3 z4 z5 hm hF hI
    have e := h0
    rw [← hF 708 (by omega) (by omega)] at e
    refine s_Mo_plan_65 ⟨fun q => by omega, fun _ => ⟨by omega, fun D3 e3 => ⟨by unfold R32; omega, ih (j + 1) D3 _ _ _ _ (by omega) (by rw [e3]; exact hF.tr (FR.w (by omega))) fun i hi => ?_⟩⟩⟩
    rcases (show i = j ∨ i < j by omega) with y | y
    · rw [y, e3, zw_eq]
    · rw [e3, zw_ne (Or.inr (by omega))]; exact hI i y
theorem mplan_groups (f : JF n r d w pl) (h0 : JM D0 n r d w) {Q : Option VV → EE → DD → Prop}
    (hk : ∀ D gs gj G W T z2 z3 z4 z5, FR 716 723 716 723 D0 D → MG D n r d w gs gj G W T → (∀ j, j < n → 0 ≤ gj j) → Sg g M_Mo_plan Q 88 [vR 708, vI 0, z2, z3, z4, z5] [] D) :
    ∀ (m : Nat) (G : Int) (gs gj : Nat → Int) (W T : Int → Int) (D : DD) (z2 z3 z4 z5 : VV), G + m = 13 → FR 716 723 716 723 D0 D → MG D n r d w gs gj G W T → Sg g M_Mo_plan Q 88 [vR 708, vI 1, z2, z3, z4, z5] [] D := by
  have hn := f.1
  intro m
  induction m with
  | zero =>
    intro G gs gj W T D z2 z3 z4 z5 hm hF hI
    exfalso
    have a := hI.1.2.2.2.2.2.2.2.2.2.2.2.2
    have b := si_sum_bd (f := fun j => if 0 ≤ gj j then (1 : Int) else 0) (B := 1) (n := n) fun i hi => by
      show 0 ≤ (if 0 ≤ gj i then (1 : Int) else 0) ∧ (if 0 ≤ gj i then (1 : Int) else 0) ≤ 1
      split <;> omega
    omega
  | succ m ih =>
    intro G gs gj W T D z2 z3 z4 z5 hm hF hI
    refine s_Mo_plan_88 ⟨fun q => by omega, fun _ => ?_⟩
    refine (fixBest_ok f (h0.of (by rw [hF 708 (by omega) (by omega)]) fun c c1 c2 => hF c (by omega) (by omega)) hI).mono fun y D2 r2 => s_Mo_plan_96 ?_
    rcases r2 with ⟨rfl, rfl, al⟩ | ⟨rfl, F2, gs', gj', W', T', mg⟩
    · exact hk D2 gs gj G W T _ _ _ _ hF hI al
    · exact ih (G + 1) gs' gj' W' T' D2 _ _ _ _ (by omega) (hF.tr F2) mg
theorem mplan_cost {Q : Option VV → EE → DD → Prop} {n' : Nat} {b e : Nat → Nat} {rt : Nat → Rat} {L : Int} (s : SZ rt n' L) (hbe : ∀ i, i < n' → b i < e i ∧ e i ≤ 200) (hp : MPR D0 723 724 0 20 n' b e rt)
    (hk : ∀ D z1 z2 z3 z4 z5, FM 222 226 244 253 D0 D → Mq D 112 (su (fun i => cub rt i * (((e i : Int) - (b i : Int) : Int) : Rat)) n') → CV g M_Mo_keep [vR 708, vI 112, vI 108] D (fun D' => Sg g M_Mo_plan Q 347 [vR 708, z1, z2, z3, z4, z5] [] D')) :
    ∀ (m k : Nat) (D : DD) (z1 z2 z3 z5 : VV), k + m = n' → FM 222 226 244 253 D0 D → Mq D 112 (su (fun i => cub rt i * (((e i : Int) - (b i : Int) : Int) : Rat)) k) → Sg g M_Mo_plan Q 301 [vR 708, z1, z2, z3, vI k, z5] [] D := by
  obtain ⟨p1, p2, p3⟩ := hp
  intro m
  induction m with
  | zero =>
    intro k D z1 z2 z3 z5 hm hF hI
    obtain rfl : k = n' := by omega
    have e := p1
    rw [← hF.1 708 (by omega) (by omega)] at e
    exact s_Mo_plan_301 ⟨fun _ => hk D _ _ _ _ _ hF hI, fun q => by omega⟩
  | succ m ih =>
    intro k D z1 z2 z3 z5 hm hF hI
    have e' := p1
    rw [← hF.1 708 (by omega) (by omega)] at e'
    have q := p3 k (by omega)
    have be := hbe k (by omega)
    have e723 : D 723 k = b k := by rw [hF.1 723 (by omega) (by omega)]; exact q.1
    have e724 : D 724 k = e k := by rw [hF.1 724 (by omega) (by omega)]; exact q.2.1
    refine s_Mo_plan_301 ⟨fun q => by omega, fun _ => ?_⟩
    rw [e723, e724]
    refine ⟨⟨by unfold R32; omega, by omega, by omega, by unfold R32; omega⟩, ?_⟩
    refine (cost_step s (ln := fun i => (e i : Int) - (b i : Int)) (fun i hi => by have := hbe i hi; omega) (show k < n' by omega) p2 (by omega) hI (q.2.2.fm hF (by omega))).mono fun D2 r2 => s_Mo_plan_333 ⟨by unfold R32; omega, ih (k + 1) D2 _ _ _ _ (by omega) (hF.tr r2.2) r2.1⟩
theorem mplan_speeds (hn : n ≤ 12) (h0 : D0 708 3 = n) {P : Int → DD → Prop} {y : Nat → Rat} (hy : ∀ j : Nat, j < n → 0 ≤ y j ∧ D0 720 j = (y j).num ∧ D0 721 j = (((y j).den : Nat) : Int))
    (hk : ∀ D, FM 144 168 248 253 D0 D → (∀ j : Nat, j < n → Mq D (72 + j) (y j)) → P (D 708 20) D) :
    ∀ (m j : Nat) (D : DD) (z1 z2 z3 z5 : VV), j + m = n → FM 144 168 248 253 D0 D → (∀ i : Nat, i < j → Mq D (72 + i) (y i)) → Sg g M_Mo_plan (rI P) 350 [vR 708, z1, z2, z3, vI j, z5] [] D := by
  intro m
  induction m with
  | zero =>
    intro j D z1 z2 z3 z5 hm hF hI
    have e := h0
    rw [← hF.1 708 (by omega) (by omega)] at e
    exact s_Mo_plan_350 ⟨fun _ => retI (hk D hF fun i hi => hI i (by omega)), fun q => by omega⟩
  | succ m ih =>
    intro j D z1 z2 z3 z5 hm hF hI
    have e := h0
    rw [← hF.1 708 (by omega) (by omega)] at e
    have q := hy j (by omega)
    have e720 : D 720 j = (y j).num := by rw [hF.1 720 (by omega) (by omega)]; exact q.2.1
    have e721 : D 721 j = (((y j).den : Nat) : Int) := by rw [hF.1 721 (by omega) (by omega)]; exact q.2.2
    refine s_Mo_plan_350 ⟨fun q => by omega, fun _ => ?_⟩
    rw [e720, e721]
    refine ⟨⟨by unfold R32; omega, by omega, by omega⟩, ?_⟩
    refine (mtell_ok (f := 72 + (j : Int)) (by omega) (Rat.num_nonneg.mpr q.1) rat_dpos).mono fun D2 r2 => s_Mo_plan_382 ⟨by unfold R32; omega, ih (j + 1) D2 _ _ _ _ (by omega) (hF.tr (r2.2.mono fun m _ _ => by omega)) fun i hi => ?_⟩
    rcases (show i = j ∨ i < j by omega) with z | z
    · rw [z]
      have := r2.1
      rwa [← rat_nd] at this
    · exact (hI i z).fm r2.2 (by omega)
end MPLAN8
