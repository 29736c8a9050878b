/-! near, speed -/
/-- a speed in binary -/
def sv (y : Rat) : Int := zddiv (zl2d y.num) (zl2d ((y.den : Nat) : Int))
noncomputable def nv (b e : Nat → Nat) (rt : Nat → Rat) : Nat → Int
  | 0 => 0
  | k + 1 => zdadd (nv b e rt k) (zdmul (zi2d ((e k : Int) - (b k : Int))) (zdmul (zdmul (sv (rt k)) (sv (rt k))) (sv (rt k))))
def scond (b e : Nat → Nat) (t : Int) (i : Nat) : Prop := ¬ 0 < zdcmp .g (zi2d (b i)) t ∧ ¬ 0 ≤ zdcmp .g t (zi2d (e i))
/-- the speed at a time -/
def SV (n : Nat) (b e : Nat → Nat) (rt : Nat → Rat) (t v : Int) : Prop := (∃ i, i < n ∧ scond b e t i ∧ (∀ j, j < i → ¬ scond b e t j) ∧ v = sv (rt i)) ∨ ((∀ i, i < n → ¬ scond b e t i) ∧ v = 0)
theorem SV.unique {n : Nat} {b e : Nat → Nat} {rt : Nat → Rat} {t v v' : Int} (h : SV n b e rt t v) (h' : SV n b e rt t v') : v = v' := by
  rcases h with ⟨i, a1, a2, a3, a4⟩ | ⟨a1, a2⟩
  · rcases h' with ⟨i', b1, b2, b3, b4⟩ | ⟨b1, b2⟩
    · rcases Nat.lt_trichotomy i i' with y | y | y
      · exact absurd a2 (b3 i y)
      · rw [a4, b4, y]
      · exact absurd b2 (a3 i' y)
    · exact absurd a2 (b1 i a1)
  · rcases h' with ⟨i', b1, b2, b3, b4⟩ | ⟨b1, b2⟩
    · exact absurd b2 (a1 i' b1)
    · rw [a2, b2]
/-- a plan's speeds are small fractions -/
def SM (n : Nat) (rt : Nat → Rat) : Prop := ∀ i, i < n → (0 ≤ (rt i).num ∧ (rt i).num ≤ 12000) ∧ (rt i).den ≤ 200
theorem Cert.sm {n : Nat} {r d w gs gj : Nat → Int} {G : Int} {W T : Int → Int} (c : Cert n r d w gs gj G W T) (hn : n ≤ 12) (hw : ∀ j, j < n → 0 < w j ∧ w j ≤ 1000) : SM 200 (spd gs W T) := fun t ht => by
  have g := c.gs0 t ht
  unfold spd
  split
  · exact ⟨by decide, by decide⟩
  · have w1 := c.Wb hn hw (k := gs t) (by omega) (by omega)
    have t1 := c.Tb (k := gs t) (by omega) (by omega)
    have ll := low_le (p := W (gs t)) (q := T (gs t)) (by omega) t1.1
    have e : sdk W T (gs t) = (W (gs t) : Rat) / (T (gs t) : Rat) := rfl
    rw [← e] at ll
    exact ⟨⟨Rat.num_nonneg.mpr (Rat.le_of_lt (c.sp0 (by omega) (by omega))), by omega⟩, by omega⟩
theorem Runs.sm {x : Nat → Rat} {f m n : Nat} {b e : Nat → Nat} {rt : Nat → Rat} (h : Runs x f m n b e rt) (hm : m ≤ 200) (s : SM 200 x) : SM n rt := fun i hi => by
  have q := h.rt i hi
  rw [q.2.2]
  exact s _ (by omega)
section NEAR
variable {g : GG} {D D0 : DD} {n' : Nat} {b e : Nat → Nat} {rt : Nat → Rat}
theorem sv_pz (s : SM n' rt) {i : Nat} (hi : i < n') : Pz (Jvm.FP.Core.val64 (zdu (sv (rt i)))) := by
  have a := s i hi
  have dp := (rt i).den_pos
  unfold sv zddiv
  rw [zdu_of]
  exact spd_pz a.1 (by omega)
theorem nv_pz (s : SM n' rt) (hbe : ∀ i, i < n' → b i < e i ∧ e i ≤ 200) : ∀ k, k ≤ n' → Pz (Jvm.FP.Core.val64 (zdu (nv b e rt k))) := by
  intro k
  induction k with
  | zero => intro _; exact zero_pz
  | succ k ih =>
    intro hk
    have q := hbe k (by omega)
    have c := cube_pz (sv_pz s (show k < n' by omega))
    show Pz (Jvm.FP.Core.val64 (zdu (zdadd _ _)))
    unfold zdadd
    rw [zdu_of]
    refine add_pz (ih (by omega)) ?_
    unfold zdmul
    rw [zdu_of]
    refine mul_pz (i2d_pp (by omega)) ?_
    rw [zdu_of]
    exact c.2
/-- what a step of near needs -/
theorem near_ok (s : SM n' rt) (hbe : ∀ i, i < n' → b i < e i ∧ e i ≤ 200) {k : Nat} (hk : k < n') : vf_n64 (Jvm.FP.dmul (zdu (sv (rt k))) (zdu (sv (rt k)))) ∧ vf_n64 (Jvm.FP.dmul (zdu (zdmul (sv (rt k)) (sv (rt k)))) (zdu (sv (rt k)))) ∧
    vf_n64 (Jvm.FP.dmul (zdu (zi2d ((e k : Int) - (b k : Int)))) (zdu (zdmul (zdmul (sv (rt k)) (sv (rt k))) (sv (rt k))))) ∧ vf_n64 (Jvm.FP.dadd (zdu (nv b e rt k)) (zdu (zdmul (zi2d ((e k : Int) - (b k : Int))) (zdmul (zdmul (sv (rt k)) (sv (rt k))) (sv (rt k)))))) := by
  have q := hbe k hk
  have c := cube_pz (sv_pz s hk)
  have p := nv_pz s hbe k (by omega)
  have m : Pz (Jvm.FP.Core.val64 (Jvm.FP.dmul (zdu (zi2d ((e k : Int) - (b k : Int)))) (zdu (zdmul (zdmul (sv (rt k)) (sv (rt k))) (sv (rt k)))))) := mul_pz (i2d_pp (by omega)) (by
    rw [show zdu (zdmul (zdmul (sv (rt k)) (sv (rt k))) (sv (rt k))) = Jvm.FP.dmul (zdu (zdmul (sv (rt k)) (sv (rt k)))) (zdu (sv (rt k))) from zdu_of _]
    exact c.2)
  refine ⟨c.1, Pz.nn c.2, Pz.nn m, Pz.nn (add_pz p ?_)⟩
  rw [show zdu (zdmul (zi2d ((e k : Int) - (b k : Int))) (zdmul (zdmul (sv (rt k)) (sv (rt k))) (sv (rt k)))) = Jvm.FP.dmul (zdu (zi2d ((e k : Int) - (b k : Int)))) (zdu (zdmul (zdmul (sv (rt k)) (sv (rt k))) (sv (rt k)))) from zdu_of _]
  exact m
theorem hasStep_ok {a : Nat} (k : zk a = (0, 5, 0)) {i : Int} : CI g M_Pr_hasStep [vR a, vI i] D (fun y D' => D' = D ∧ y = if D a 0 ≠ 0 ∧ 0 ≤ i ∧ i < D a 1 then 1 else 0) := by
  refine CI.intro mc_Pr_hasStep (Nat.le_of_ble_eq_true rfl) rfl (s_Pr_hasStep_0 k ⟨fun q => retI ⟨rfl, ?_⟩, fun q => ⟨fun q2 => retI ⟨rfl, ?_⟩, fun q2 => ⟨fun q3 => retI ⟨rfl, ?_⟩, fun q3 => retI ⟨rfl, ?_⟩⟩⟩⟩)
  · rw [if_neg (by omega)]
  · rw [if_neg (by omega)]
  · rw [if_neg (by omega)]
  · rw [if_pos (by omega)]
theorem asBinary_ok {a : Nat} (k : zk a = (0, 4, 0)) {y : Rat} (h : Fq D a y) (h1 : y.num ≤ 12000) (h2 : y.den ≤ 200) : CD g M_Fr_asBinary [vR a] D (fun v D' => D' = D ∧ v = sv y) := by
  have dp := y.den_pos
  have np := h.1.nn
  have B62 : (12000 : Int) < BB ^ 2 := by decide
  have up := under_pos ⟨y.den, by omega⟩ (by show y.den ≠ 0; omega)
  refine CD.intro mc_Fr_asBinary (Nat.le_of_ble_eq_true rfl) rfl (s_Fr_asBinary_0 k ((asLong_ok (zs_Fr_below k) h.2 (by omega)).mono fun v D2 r2 => ?_))
  obtain ⟨rfl, rfl⟩ := r2
  refine s_Fr_asBinary_7 k ⟨fun q => ?_, fun q => (asLong_ok (zs_Fr_top k) h.1 (by omega)).mono fun v D3 r3 => ?_⟩
  · rw [show zdcmp .l (zl2d ((y.den : Nat) : Int)) 0 = 1 from up] at q
    omega
  · obtain ⟨rfl, rfl⟩ := r3
    exact s_Fr_asBinary_22 ⟨Pz.nn (spd_pz ⟨np, h1⟩ (by omega)), retD ⟨rfl, rfl⟩⟩
theorem keNear_loop (hp : PR D 9 n' b e rt) (hr : D 9 0 = 1) (s : SM n' rt) (hbe : ∀ i, i < n' → b i < e i ∧ e i ≤ 200) : ∀ (m k : Nat) (z4 z5 : VV), k + m = n' → Sg g M_Ke_near (rD (fun v D' => D' = D ∧ v = nv b e rt n')) 4 [vR 0, vD (nv b e rt k), vU, vI k, z4, z5] [] D := by
  have h24 := hp.2.1
  have h1 := hp.1
  intro m
  induction m with
  | zero =>
    intro k z4 z5 hm
    obtain rfl : k = n' := by omega
    refine s_Ke_near_4 ⟨fun _ => retD ⟨rfl, rfl⟩, fun _ => (hasStep_ok (a := 9) rfl).mono fun y D2 r2 => ?_⟩
    obtain ⟨rfl, rfl⟩ := r2
    exact s_Ke_near_18 ⟨fun _ => retD ⟨rfl, rfl⟩, fun q => absurd (if_neg (by omega)) q⟩
  | succ m ih =>
    intro k z4 z5 hm
    have q := hp.2.2 k (by omega)
    have sk := s k (by omega)
    have be := hbe k (by omega)
    have ok := near_ok s hbe (show k < n' by omega)
    refine s_Ke_near_4 ⟨fun q => by omega, fun _ => (hasStep_ok (a := 9) rfl).mono fun y D2 r2 => ?_⟩
    obtain ⟨rfl, rfl⟩ := r2
    refine s_Ke_near_18 ⟨fun q => by rw [if_pos (by omega)] at q; omega, fun _ => ⟨by omega, ?_⟩⟩
    rw [Int.toNat_natCast]
    refine (asBinary_ok (zk_rate (a := 9) rfl (by omega)) q.2.2 sk.1.2 sk.2).mono fun v D3 r3 => ?_
    obtain ⟨rfl, rfl⟩ := r3
    refine s_Ke_near_33 ?_
    have e10 : D3 10 k = b k := q.1
    have e11 : D3 11 k = e k := q.2.1
    rw [e10, e11]
    exact ⟨⟨by omega, by omega, by unfold R32; omega, ok.1, ok.2.1, ok.2.2.1, ok.2.2.2, by unfold R32; omega⟩, ih (k + 1) _ _ (by omega)⟩
theorem keSpeed_loop (hp : PR D 9 n' b e rt) (hr : D 9 0 = 1) (s : SM n' rt) {t : Int} : ∀ (m k : Nat), k + m = n' → (∀ j, j < k → ¬ scond b e t j) → Sg g M_Ke_speed (rD (fun v D' => D' = D ∧ SV n' b e rt t v)) 2 [vR 0, vD t, vU, vI k] [] D := by
  have h24 := hp.2.1
  have h1 := hp.1
  intro m
  induction m with
  | zero =>
    intro k hm hI
    obtain rfl : k = n' := by omega
    refine s_Ke_speed_2 ⟨fun _ => retD ⟨rfl, Or.inr ⟨hI, rfl⟩⟩, fun _ => (hasStep_ok (a := 9) rfl).mono fun y D2 r2 => ?_⟩
    obtain ⟨rfl, rfl⟩ := r2
    exact s_Ke_speed_16 ⟨fun _ => retD ⟨rfl, Or.inr ⟨hI, rfl⟩⟩, fun q => absurd (if_neg (by omega)) q⟩
  | succ m ih =>
    intro k hm hI
    have q := hp.2.2 k (by omega)
    have sk := s k (by omega)
    have e10 : D 10 k = b k := q.1
    have e11 : D 11 k = e k := q.2.1
    have nxt : ¬ scond b e t k → Sg g M_Ke_speed (rD (fun v D' => D' = D ∧ SV n' b e rt t v)) 62 [vR 0, vD t, vU, vI k] [] D := fun z => s_Ke_speed_62 ⟨by unfold R32; omega, ih (k + 1) (by omega) fun j hj => by
      rcases (show j = k ∨ j < k by omega) with y | y
      · rw [y]; exact z
      · exact hI j y⟩
    refine s_Ke_speed_2 ⟨fun q => by omega, fun _ => (hasStep_ok (a := 9) rfl).mono fun y D2 r2 => ?_⟩
    obtain ⟨rfl, rfl⟩ := r2
    refine s_Ke_speed_16 ⟨fun q => by rw [if_pos (by omega)] at q; omega, fun _ => ⟨by omega, ?_⟩⟩
    rw [e10, e11]
    refine ⟨fun c => nxt fun z => z.1 c, fun c => ⟨by omega, fun c2 => nxt fun z => z.2 c2, fun c2 => ⟨by omega, ?_⟩⟩⟩
    rw [Int.toNat_natCast]
    refine (asBinary_ok (zk_rate (a := 9) rfl (by omega)) q.2.2 sk.1.2 sk.2).mono fun v D3 r3 => s_Ke_speed_61 (retD ?_)
    obtain ⟨rfl, rfl⟩ := r3
    exact ⟨rfl, Or.inl ⟨k, by omega, ⟨c, c2⟩, hI, rfl⟩⟩
theorem keNear_ok (hp : PR D 9 n' b e rt) (hr : D 9 0 = 1) (s : SM n' rt) (hbe : ∀ i, i < n' → b i < e i ∧ e i ≤ 200) : CD g M_Ke_near [vR 0] D (fun v D' => D' = D ∧ v = nv b e rt n') :=
  CD.intro mc_Ke_near (Nat.le_of_ble_eq_true rfl) rfl (s_Ke_near_0 (keNear_loop hp hr s hbe n' 0 _ _ (by omega)))
theorem keNear_0 (hr : D 9 0 = 0) : CD g M_Ke_near [vR 0] D (fun v D' => D' = D ∧ v = 0) := by
  refine CD.intro mc_Ke_near (Nat.le_of_ble_eq_true rfl) rfl (s_Ke_near_0 (s_Ke_near_4 ⟨fun q => by omega, fun _ => (hasStep_ok (a := 9) rfl).mono fun y D2 r2 => ?_⟩))
  obtain ⟨rfl, rfl⟩ := r2
  exact s_Ke_near_18 ⟨fun _ => retD ⟨rfl, rfl⟩, fun q => absurd (if_neg (by omega)) q⟩
theorem keSpeed_ok (hp : PR D 9 n' b e rt) (hr : D 9 0 = 1) (s : SM n' rt) {t : Int} : CD g M_Ke_speed [vR 0, vD t] D (fun v D' => D' = D ∧ SV n' b e rt t v) :=
  CD.intro mc_Ke_speed (Nat.le_of_ble_eq_true rfl) rfl (s_Ke_speed_0 (keSpeed_loop hp hr s n' 0 (by omega) (fun j hj => by omega)))
theorem keSpeed_0 (hr : D 9 0 = 0) {t : Int} : CD g M_Ke_speed [vR 0, vD t] D (fun v D' => D' = D ∧ v = 0) := by
  refine CD.intro mc_Ke_speed (Nat.le_of_ble_eq_true rfl) rfl (s_Ke_speed_0 (s_Ke_speed_2 ⟨fun q => by omega, fun _ => (hasStep_ok (a := 9) rfl).mono fun y D2 r2 => ?_⟩))
  obtain ⟨rfl, rfl⟩ := r2
  exact s_Ke_speed_16 ⟨fun _ => retD ⟨rfl, rfl⟩, fun q => absurd (if_neg (by omega)) q⟩
/-- the model's steps in binary -/
def MB2 (D : DD) (n' : Nat) (b e : Nat → Nat) (rt : Nat → Rat) : Prop := D 708 20 = n' ∧ n' ≤ 24 ∧ ∀ i : Nat, i < n' → D 723 i = b i ∧ D 724 i = e i ∧ D 725 i = (rt i).num ∧ D 726 i = (((rt i).den : Nat) : Int)
theorem speedOf_ok (hp : MB2 D n' b e rt) (s : SM n' rt) {i : Nat} (hi : i < n') : CD g M_Mo_speedOf [vR 708, vI i] D (fun v D' => D' = D ∧ v = sv (rt i)) := by
  have q := hp.2.2 i hi
  have h24 := hp.2.1
  have sk := s i hi
  have dp := (rt i).den_pos
  refine CD.intro mc_Mo_speedOf (Nat.le_of_ble_eq_true rfl) rfl (s_Mo_speedOf_0 ?_)
  rw [q.2.2.1, q.2.2.2]
  exact ⟨⟨by omega, by omega, Pz.nn (spd_pz sk.1 (by omega))⟩, retD ⟨rfl, rfl⟩⟩
theorem mNear_loop (hp : MB2 D n' b e rt) (hr : D 708 10 = 1) (s : SM n' rt) (hbe : ∀ i, i < n' → b i < e i ∧ e i ≤ 200) : ∀ (m k : Nat) (z4 z5 : VV), k + m = n' → Sg g M_Mo_near (rD (fun v D' => D' = D ∧ v = nv b e rt n')) 9 [vR 708, vD (nv b e rt k), vU, vI k, z4, z5] [] D := by
  have h24 := hp.2.1
  have h1 := hp.1
  intro m
  induction m with
  | zero =>
    intro k z4 z5 hm
    obtain rfl : k = n' := by omega
    exact s_Mo_near_9 ⟨fun _ => retD ⟨rfl, rfl⟩, fun q => by omega⟩
  | succ m ih =>
    intro k z4 z5 hm
    have q := hp.2.2 k (by omega)
    have be := hbe k (by omega)
    have ok := near_ok s hbe (show k < n' by omega)
    refine s_Mo_near_9 ⟨fun q => by omega, fun _ => ⟨fun q => by omega, fun _ => (speedOf_ok hp s (by omega)).mono fun v D2 r2 => ?_⟩⟩
    obtain ⟨rfl, rfl⟩ := r2
    refine s_Mo_near_29 ?_
    rw [q.1, q.2.1]
    exact ⟨⟨by omega, by omega, by unfold R32; omega, ok.1, ok.2.1, ok.2.2.1, ok.2.2.2, by unfold R32; omega⟩, ih (k + 1) _ _ (by omega)⟩
theorem MB2.zw (hp : MB2 D n' b e rt) {v : Int} : MB2 (zw D 708 0 v) n' b e rt := ⟨by rw [zw_ne (Or.inr (by omega))]; exact hp.1, hp.2.1, fun i hi => by
  rw [zw_off (by omega), zw_off (by omega), zw_off (by omega), zw_off (by omega)]; exact hp.2.2 i hi⟩
theorem mNear_ok (hp : MB2 D n' b e rt) (hr : D 708 10 = 1) (s : SM n' rt) (hbe : ∀ i, i < n' → b i < e i ∧ e i ≤ 200) : CD g M_Mo_near [vR 708] D (fun v D' => D' = zw D 708 0 0 ∧ v = nv b e rt n') := by
  refine CD.intro mc_Mo_near (Nat.le_of_ble_eq_true rfl) rfl (s_Mo_near_0 fun D1 e1 => ?_)
  refine zg_post (mNear_loop (by rw [e1]; exact hp.zw) (by rw [e1, zw_ne (Or.inr (by omega))]; exact hr) s hbe n' 0 _ _ (by omega)) ?_
  rintro _ _ _ ⟨q1, y, q2, q3, q4⟩
  exact ⟨q1, y, q2, by rw [q3, e1], q4⟩
theorem mNear_0 (hr : D 708 10 = 0) : CD g M_Mo_near [vR 708] D (fun v D' => D' = zw D 708 0 0 ∧ v = 0) := by
  refine CD.intro mc_Mo_near (Nat.le_of_ble_eq_true rfl) rfl (s_Mo_near_0 fun D1 e1 => s_Mo_near_9 ⟨fun _ => retD ⟨e1, rfl⟩, fun _ => ⟨fun _ => retD ⟨e1, rfl⟩, fun q => ?_⟩⟩)
  rw [e1, zw_ne (Or.inr (by omega))] at q
  exact absurd hr q
theorem mSpeed_loop (hp : MB2 D n' b e rt) (hr : D 708 10 = 1) (s : SM n' rt) {t : Int} : ∀ (m k : Nat), k + m = n' → (∀ j, j < k → ¬ scond b e t j) → Sg g M_Mo_speed (rD (fun v D' => D' = D ∧ SV n' b e rt t v)) 7 [vR 708, vD t, vU, vI k] [] D := by
  have h24 := hp.2.1
  have h1 := hp.1
  intro m
  induction m with
  | zero =>
    intro k hm hI
    obtain rfl : k = n' := by omega
    exact s_Mo_speed_7 ⟨fun _ => retD ⟨rfl, Or.inr ⟨hI, rfl⟩⟩, fun q => by omega⟩
  | succ m ih =>
    intro k hm hI
    have q := hp.2.2 k (by omega)
    have nxt : ¬ scond b e t k → Sg g M_Mo_speed (rD (fun v D' => D' = D ∧ SV n' b e rt t v)) 52 [vR 708, vD t, vU, vI k] [] D := fun z => s_Mo_speed_52 ⟨by unfold R32; omega, ih (k + 1) (by omega) fun j hj => by
      rcases (show j = k ∨ j < k by omega) with y | y
      · rw [y]; exact z
      · exact hI j y⟩
    refine s_Mo_speed_7 ⟨fun q => by omega, fun _ => ⟨fun q => by omega, fun _ => ⟨by omega, ?_⟩⟩⟩
    rw [q.1, q.2.1]
    refine ⟨fun c => nxt fun z => z.1 c, fun c => ⟨by omega, fun c2 => nxt fun z => z.2 c2, fun c2 => (speedOf_ok hp s (by omega)).mono fun v D2 r2 => s_Mo_speed_51 (retD ?_)⟩⟩
    obtain ⟨rfl, rfl⟩ := r2
    exact ⟨rfl, Or.inl ⟨k, by omega, ⟨c, c2⟩, hI, rfl⟩⟩
theorem mSpeed_ok (hp : MB2 D n' b e rt) (hr : D 708 10 = 1) (s : SM n' rt) {t : Int} : CD g M_Mo_speed [vR 708, vD t] D (fun v D' => D' = zw D 708 0 0 ∧ SV n' b e rt t v) := by
  refine CD.intro mc_Mo_speed (Nat.le_of_ble_eq_true rfl) rfl (s_Mo_speed_0 fun D1 e1 => ?_)
  refine zg_post (mSpeed_loop (by rw [e1]; exact hp.zw) (by rw [e1, zw_ne (Or.inr (by omega))]; exact hr) s n' 0 (by omega) (fun j hj => by omega)) ?_
  rintro _ _ _ ⟨q1, y, q2, q3, q4⟩
  exact ⟨q1, y, q2, by rw [q3, e1], q4⟩
theorem mSpeed_0 (hr : D 708 10 = 0) {t : Int} : CD g M_Mo_speed [vR 708, vD t] D (fun v D' => D' = zw D 708 0 0 ∧ v = 0) := by
  refine CD.intro mc_Mo_speed (Nat.le_of_ble_eq_true rfl) rfl (s_Mo_speed_0 fun D1 e1 => s_Mo_speed_7 ⟨fun _ => retD ⟨e1, rfl⟩, fun _ => ⟨fun _ => retD ⟨e1, rfl⟩, fun q => ?_⟩⟩)
  rw [e1, zw_ne (Or.inr (by omega))] at q
  exact absurd hr q
end NEAR
