/-! the model: fixBest, the search -/
def mfr (r d gs gj : Nat → Int) (i k : Nat) : Int := if r i < d k ∧ gj i < 0 ∧ gj k < 0 then cf gs (d k).toNat - cf gs (r i).toNat else 0
def mwk (n : Nat) (r d w gs gj : Nat → Int) (u v : Nat) : Int := si (fun j => if gj j < 0 ∧ ino gs r d u v j = 0 then w j else 0) n
def msm (n : Nat) (r d w gs gj : Nat → Int) (i k : Nat) : Int := if 0 < mfr r d gs gj i k then mwk n r d w gs gj (r i).toNat (d k).toNat else 0
/-- the best stretch so far -/
def BM (n : Nat) (r d w gs gj : Nat → Int) (seen : Nat → Nat → Prop) (bf bt BW BT : Int) : Prop :=
  (0 ≤ BW ∧ BW ≤ 12000) ∧ (0 < BT ∧ BT ≤ 200) ∧ (∀ i k, i < n → k < n → seen i k → msm n r d w gs gj i k * BT ≤ BW * mfr r d gs gj i k) ∧
  ((bf = -1 ∧ bt = -1 ∧ BW = 0) ∨ ∃ i k, i < n ∧ k < n ∧ r i < d k ∧ gj i < 0 ∧ gj k < 0 ∧ bf = r i ∧ bt = d k ∧ BT = mfr r d gs gj i k ∧ BW = mwk n r d w gs gj (r i).toNat (d k).toNat ∧ 0 < BW)
section MPLAN2
variable {g : GG} {D : DD} {n : Nat} {r d w : Nat → Int} {pl : Nat → Nat} {gs gj : Nat → Int}
theorem mwk_bd (f : JF n r d w pl) {u v m : Nat} (hm : m ≤ n) : 0 ≤ mwk m r d w gs gj u v ∧ mwk m r d w gs gj u v ≤ 1000 * m :=
  si_sum_bd (f := fun j => if gj j < 0 ∧ ino gs r d u v j = 0 then w j else 0) (B := 1000) fun i hi => by
    have := f.2.2.1 i (by omega)
    show 0 ≤ (if gj i < 0 ∧ ino gs r d u v i = 0 then w i else 0) ∧ (if gj i < 0 ∧ ino gs r d u v i = 0 then w i else 0) ≤ 1000
    split <;> omega
theorem mfr_bd (f : JF n r d w pl) {i k : Nat} (hi : i < n) (hk : k < n) : 0 ≤ mfr r d gs gj i k ∧ mfr r d gs gj i k ≤ 200 := by
  have wi := f.2.1 i hi
  have wk := f.2.1 k hk
  unfold mfr
  split
  · have c1 := cf_le (gs := gs) (show (r i).toNat ≤ (d k).toNat by omega)
    have c2 := cf_bd (gs := gs) (t := (d k).toNat)
    have c3 := cf_bd (gs := gs) (t := (r i).toNat)
    omega
  · omega
theorem fb_sum (f : JF n r d w pl) (h : JM D n r d w) (hf : ∀ t : Nat, t < 200 → (D 716 t = 0 ↔ gs t = -1)) (hd : ∀ j : Nat, j < n → (D 719 j = 0 ↔ gj j < 0)) {Q : Option VV → EE → DD → Prop} {BW BT bf bt free : Int} {u v : Nat} (hv : v ≤ 200) {i k : Nat}
    (hk : ∀ z14, Sg g M_Mo_fixBest Q 149 [vR 708, vL BW, vU, vL BT, vU, vI bf, vI bt, vI i, vI k, vI u, vI v, vI free, vL (if 0 < free then mwk n r d w gs gj u v else 0), vU, z14] [] D) :
    ∀ (m j : Nat), j + m = n → (free ≤ 0 → j = 0) → Sg g M_Mo_fixBest Q 99 [vR 708, vL BW, vU, vL BT, vU, vI bf, vI bt, vI i, vI k, vI u, vI v, vI free, vL (mwk j r d w gs gj u v), vU, vI j] [] D := by
  have hn := f.1
  have h3 := h.1
  intro m
  induction m with
  | zero =>
    intro j hm hz
    refine s_Mo_fixBest_99 ⟨fun _ => ?_, fun q => by omega⟩
    obtain rfl : j = n := by omega
    have := hk (vI j)
    split at this
    · exact this
    · rw [hz (by omega)] at this ⊢
      exact this
  | succ m ih =>
    intro j hm hz
    refine s_Mo_fixBest_99 ⟨fun q => by omega, fun _ => ⟨fun q => ?_, fun q => ?_⟩⟩
    · have := hk (vI j)
      rw [if_neg (by omega)] at this
      rw [hz q] at this ⊢
      exact this
    · have hj : j < n := by omega
      refine (mWithin_ok f h hf hj hv (hd j hj)).mono fun y D2 r2 => ?_
      obtain ⟨rfl, rfl⟩ := r2
      have b := mwk_bd f (gs := gs) (gj := gj) (u := u) (v := v) (show j ≤ n by omega)
      have wj := f.2.2.1 j hj
      have e : mwk (j + 1) r d w gs gj u v = mwk j r d w gs gj u v + (if gj j < 0 ∧ ino gs r d u v j = 0 then w j else 0) := rfl
      refine s_Mo_fixBest_125 ⟨fun q2 => s_Mo_fixBest_140 ⟨⟨by unfold R64; omega, by unfold R32; omega⟩, ?_⟩, fun q2 => ⟨by omega, s_Mo_fixBest_140 ?_⟩⟩
      · rw [if_neg (fun z => by rw [if_pos z] at q2; omega)] at e
        rw [← e]
        exact ih (j + 1) (by omega) (fun z => by omega)
      · rw [if_pos (by refine Decidable.byContradiction fun z => ?_; rw [if_neg z] at q2; omega)] at e
        rw [(h.2 j hj).2.2, ← e]
        exact ⟨⟨by unfold R64; omega, by unfold R32; omega⟩, ih (j + 1) (by omega) (fun z => by omega)⟩
theorem fb_inner (f : JF n r d w pl) (h : JM D n r d w) (hf : ∀ t : Nat, t < 200 → (D 716 t = 0 ↔ gs t = -1)) (hd : ∀ j : Nat, j < n → (D 719 j = 0 ↔ gj j < 0)) {Q : Option VV → EE → DD → Prop} {i : Nat} (hi : i < n)
    (hk : ∀ bf bt BW BT z8, BM n r d w gs gj (fun i' _ => i' < i + 1) bf bt BW BT → Sg g M_Mo_fixBest Q 13 [vR 708, vL BW, vU, vL BT, vU, vI bf, vI bt, vI ((i + 1 : Nat) : Int), z8, vU, vU, vU, vU, vU, vU] [] D) :
    ∀ (m k : Nat) (bf bt BW BT : Int) (z9 z10 z11 z12 z13 z14 : VV), k + m = n → BM n r d w gs gj (fun i' k' => i' < i ∨ (i' = i ∧ k' < k)) bf bt BW BT → Sg g M_Mo_fixBest Q 25 [vR 708, vL BW, vU, vL BT, vU, vI bf, vI bt, vI i, vI k, z9, z10, z11, z12, z13, z14] [] D := by
  have hn := f.1
  have h3 := h.1
  intro m
  induction m with
  | zero =>
    intro k bf bt BW BT z9 z10 z11 z12 z13 z14 hm hb
    refine s_Mo_fixBest_25 ⟨fun _ => ⟨by unfold R32; omega, ?_⟩, fun q => by omega⟩
    obtain ⟨b1, b2, b3, b4⟩ := hb
    exact hk bf bt BW BT (vI k) ⟨b1, b2, fun i' k' i1 k1 s => b3 i' k' i1 k1 (by omega), b4⟩
  | succ m ih =>
    intro k bf bt BW BT z9 z10 z11 z12 z13 z14 hm hb
    have hk' : k < n := by omega
    have wi := f.2.1 i hi
    have wk := f.2.1 k hk'
    obtain ⟨a, ha⟩ : ∃ a : Nat, r i = a := ⟨(r i).toNat, by omega⟩
    obtain ⟨b, hbb⟩ : ∃ b : Nat, d k = b := ⟨(d k).toNat, by omega⟩
    have h1 := (h.2 i hi).1
    have h2 := (h.2 k hk').2.1
    rw [ha] at h1
    rw [hbb] at h2
    have mb := mfr_bd f (gs := gs) (gj := gj) hi hk'
    have wb := mwk_bd f (gs := gs) (gj := gj) (u := a) (v := b) (Nat.le_refl n)
    have ms : msm n r d w gs gj i k = if 0 < mfr r d gs gj i k then mwk n r d w gs gj a b else 0 := by unfold msm; rw [ha, hbb, Int.toNat_natCast, Int.toNat_natCast]
    obtain ⟨b1, b2, b3, b4⟩ := id hb
    have fin1 : ∀ z11 z12 z13 z14, Sg g M_Mo_fixBest Q 91 [vR 708, vL BW, vU, vL BT, vU, vI bf, vI bt, vI i, vI k, vI a, vI b, z11, z12, z13, z14] [vI (mfr r d gs gj i k)] D := by
      intro z11 z12 z13 z14
      refine s_Mo_fixBest_91 (fb_sum f h hf hd (by omega) (fun z14 => ?_) n 0 (by omega) (fun _ => rfl))
      rw [← ms]
      have sb : 0 ≤ msm n r d w gs gj i k ∧ msm n r d w gs gj i k ≤ 12000 := by
        rw [ms]; split <;> omega
      have m1 : msm n r d w gs gj i k * BT ≤ 12000 * 200 := Int.mul_le_mul sb.2 b2.2 (by omega) (by omega)
      have m2 : BW * mfr r d gs gj i k ≤ 12000 * 200 := Int.mul_le_mul b1.2 mb.2 mb.1 (by omega)
      have m3 := Int.mul_nonneg sb.1 (show 0 ≤ BT by omega)
      have m4 := Int.mul_nonneg b1.1 mb.1
      refine s_Mo_fixBest_149 ⟨⟨by unfold R64; omega, by unfold R64; omega⟩, fun q => s_Mo_fixBest_177 ⟨by unfold R32; omega, ih (k + 1) bf bt BW BT _ _ _ _ _ _ (by omega) ⟨b1, b2, fun i' k' i1 k1 s => ?_, b4⟩⟩, fun q => s_Mo_fixBest_177 ⟨by unfold R32; omega, ih (k + 1) (a : Int) (b : Int) (msm n r d w gs gj i k) (mfr r d gs gj i k) _ _ _ _ _ _ (by omega) ?_⟩⟩
      · rcases (show (i' < i ∨ (i' = i ∧ k' < k)) ∨ (i' = i ∧ k' = k) by omega) with y | y
        · exact b3 i' k' i1 k1 y
        · rw [y.1, y.2]; exact q
      · have fp : 0 < mfr r d gs gj i k := by
          refine Decidable.byContradiction fun z => ?_
          rw [if_neg z] at ms
          rw [ms, Int.zero_mul] at q
          omega
        have sp : 0 < msm n r d w gs gj i k := by
          rcases (show msm n r d w gs gj i k = 0 ∨ 0 < msm n r d w gs gj i k by omega) with z | z
          · rw [z, Int.zero_mul] at q; omega
          · exact z
        rw [if_pos fp] at ms
        have c : r i < d k ∧ gj i < 0 ∧ gj k < 0 := by
          refine Decidable.byContradiction fun z => ?_
          unfold mfr at fp
          rw [if_neg z] at fp
          omega
        refine ⟨sb, ⟨fp, mb.2⟩, fun i' k' i1 k1 s => ?_, Or.inr ⟨i, k, hi, hk', c.1, c.2.1, c.2.2, ha.symm, hbb.symm, rfl, by rw [ms, ha, hbb, Int.toNat_natCast, Int.toNat_natCast], sp⟩⟩
        rcases (show (i' < i ∨ (i' = i ∧ k' < k)) ∨ (i' = i ∧ k' = k) by omega) with y | y
        · have e1 := b3 i' k' i1 k1 y
          have mb' := mfr_bd f (gs := gs) (gj := gj) i1 k1
          -- s' BT ≤ BW f' and BW f < s BT give s' f ≤ s f'
          have x1 : msm n r d w gs gj i' k' * BT * mfr r d gs gj i k ≤ BW * mfr r d gs gj i' k' * mfr r d gs gj i k := Int.mul_le_mul_of_nonneg_right e1 (by omega)
          have x2 : BW * mfr r d gs gj i k * mfr r d gs gj i' k' ≤ msm n r d w gs gj i k * BT * mfr r d gs gj i' k' := Int.mul_le_mul_of_nonneg_right (by omega) mb'.1
          refine Int.le_of_mul_le_mul_right (a := BT) ?_ b2.1
          have y1 : msm n r d w gs gj i' k' * mfr r d gs gj i k * BT = msm n r d w gs gj i' k' * BT * mfr r d gs gj i k := by ac_rfl
          have y2 : BW * mfr r d gs gj i' k' * mfr r d gs gj i k = BW * mfr r d gs gj i k * mfr r d gs gj i' k' := by ac_rfl
          have y3 : msm n r d w gs gj i k * mfr r d gs gj i' k' * BT = msm n r d w gs gj i k * BT * mfr r d gs gj i' k' := by ac_rfl
          omega
        · rw [y.1, y.2]
          exact Int.le_refl _
    have zer : ¬ (r i < d k ∧ gj i < 0 ∧ gj k < 0) → Sg g M_Mo_fixBest Q 90 [vR 708, vL BW, vU, vL BT, vU, vI bf, vI bt, vI i, vI k, vI a, vI b, vU, vU, vU, vU] [] D := fun z => by
      have e : mfr r d gs gj i k = 0 := by unfold mfr; exact if_neg z
      have := fin1 vU vU vU vU
      rw [e] at this
      exact s_Mo_fixBest_90 this
    refine s_Mo_fixBest_25 ⟨fun q => by omega, fun _ => ⟨⟨by omega, by omega⟩, ?_⟩⟩
    rw [h1, h2]
    refine ⟨fun q => zer (by omega), fun q => ⟨by omega, fun q2 => zer (fun z => q2 ((hd i hi).mpr z.2.1)), fun q2 => ⟨by omega, fun q3 => zer (fun z => q3 ((hd k hk').mpr z.2.2)), fun q3 => ?_⟩⟩⟩
    refine (open_ok hf (u := a) (v := b) (by omega)).mono fun y D2 r2 => ?_
    obtain ⟨rfl, rfl⟩ := r2
    have e : mfr r d gs gj i k = if a < b then cf gs b - cf gs a else 0 := by
      unfold mfr
      rw [if_pos ⟨by omega, (hd i hi).mp q2, (hd k hk').mp q3⟩, if_pos (by omega), ha, hbb, Int.toNat_natCast, Int.toNat_natCast]
    rw [← e]
    exact s_Mo_fixBest_87 (fin1 _ _ _ _)
theorem fb_outer (f : JF n r d w pl) (h : JM D n r d w) (hf : ∀ t : Nat, t < 200 → (D 716 t = 0 ↔ gs t = -1)) (hd : ∀ j : Nat, j < n → (D 719 j = 0 ↔ gj j < 0)) {Q : Option VV → EE → DD → Prop}
    (hk0 : (∀ i k, i < n → k < n → msm n r d w gs gj i k ≤ 0) → Q (some (vI 0)) zE D)
    (hk : ∀ (i k : Nat) (BW BT : Int), i < n → k < n → r i < d k → gj i < 0 → gj k < 0 → 0 < BW → 0 < BT → BW ≤ 12000 → BT ≤ 200 → BT = mfr r d gs gj i k → BW = mwk n r d w gs gj (r i).toNat (d k).toNat → (∀ i k, i < n → k < n → msm n r d w gs gj i k * BT ≤ BW * mfr r d gs gj i k) →
      Sg g M_Mo_fixBest Q 206 [vR 708, vL BW, vU, vL BT, vU, vI (r i), vI (d k), vL (gcdi BW BT), vU, vI 0, vU, vU, vU, vU, vU] [] D) :
    ∀ (m i : Nat) (bf bt BW BT : Int) (z8 z9 z10 z11 z12 z13 z14 : VV), i + m = n → BM n r d w gs gj (fun i' _ => i' < i) bf bt BW BT → Sg g M_Mo_fixBest Q 13 [vR 708, vL BW, vU, vL BT, vU, vI bf, vI bt, vI i, z8, z9, z10, z11, z12, z13, z14] [] D := by
  have hn := f.1
  have h3 := h.1
  intro m
  induction m with
  | zero =>
    intro i bf bt BW BT z8 z9 z10 z11 z12 z13 z14 hm hb
    obtain ⟨b1, b2, b3, b4⟩ := hb
    refine s_Mo_fixBest_13 ⟨fun _ => ⟨fun q => ?_, fun q => hk0 fun i' k' i1 k1 => ?_⟩, fun q => by omega⟩
    · rcases b4 with b4 | ⟨i', k', x1, x2, x3, x4, x5, x6, x7, x8, x9, x10⟩
      · omega
      · refine (mGcd_ok (by omega) (by omega)).mono fun v D2 r2 => ?_
        obtain ⟨rfl, rfl⟩ := r2
        rw [x6, x7]
        exact s_Mo_fixBest_201 (hk i' k' BW BT x1 x2 x3 x4 x5 x10 b2.1 b1.2 b2.2 x8 x9 fun i k i1 k1 => b3 i k i1 k1 (by omega))
    · rcases b4 with b4 | ⟨i', k', x1, x2, x3, x4, x5, x6, x7, x8, x9, x10⟩
      · have := b3 i' k' i1 k1 (by omega)
        rw [b4.2.2, Int.zero_mul] at this
        rcases Int.lt_or_le 0 (msm n r d w gs gj i' k') with z | z
        · have := Int.mul_pos z b2.1
          omega
        · exact z
      · have := f.2.1 i' x1
        omega
  | succ m ih =>
    intro i bf bt BW BT z8 z9 z10 z11 z12 z13 z14 hm hb
    refine s_Mo_fixBest_13 ⟨fun q => by omega, fun _ => ?_⟩
    refine fb_inner f h hf hd (show i < n by omega) (fun bf bt BW BT z8 hb' => ih (i + 1) bf bt BW BT z8 _ _ _ _ _ _ (by omega) hb') n 0 bf bt BW BT _ _ _ _ _ _ (by omega) ?_
    obtain ⟨b1, b2, b3, b4⟩ := hb
    exact ⟨b1, b2, fun i' k' i1 k1 s => b3 i' k' i1 k1 (by omega), b4⟩
end MPLAN2
