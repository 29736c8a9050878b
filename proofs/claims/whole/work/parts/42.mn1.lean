/-! the model's numbers: set, copy, part, trim, order -/
def MB : Int := 16777216
theorem MB_pos : (0 : Int) < MB := by decide
theorem MB_ge : (1 : Int) ≤ MB := by decide
/-- row n of the model's cells -/
def mr (D : DD) (n : Int) : Int → Int := fun j => D 709 (100 * n + j)
/-- row n holds v -/
def Mn (D : DD) (n v : Int) : Prop := (0 ≤ D 710 n ∧ D 710 n ≤ 100) ∧ Dg (mr D n) MB (D 710 n) ∧ (D 710 n = 0 ∨ MB ^ (D 710 n - 1).toNat ≤ v) ∧ Ds (mr D n) MB (D 710 n) = v
def MnL (D : DD) (n v : Int) : Prop := (0 ≤ D 710 n ∧ D 710 n ≤ 100) ∧ Dg (mr D n) MB (D 710 n) ∧ Ds (mr D n) MB (D 710 n) = v
/-- only rows within two stretches are changed -/
def FM (lo hi lo2 hi2 : Int) (D D' : DD) : Prop := (∀ c, c ≠ 709 → c ≠ 710 → D' c = D c) ∧ ∀ m, (m < lo ∨ hi ≤ m) → (m < lo2 ∨ hi2 ≤ m) → D' 710 m = D 710 m ∧ ∀ j, 0 ≤ j → j < 100 → mr D' m j = mr D m j
def F1 (n : Int) (D D' : DD) : Prop := FM n (n + 1) n (n + 1) D D'
section MN0
variable {D D' D'' : DD} {n m k x v w lo hi lo2 hi2 lo' hi' lo2' hi2' : Int}
theorem FM.rf : FM lo hi lo2 hi2 D D := ⟨fun _ _ _ => rfl, fun _ _ _ => ⟨rfl, fun _ _ _ => rfl⟩⟩
theorem FM.tr (h : FM lo hi lo2 hi2 D D') (h' : FM lo hi lo2 hi2 D' D'') : FM lo hi lo2 hi2 D D'' :=
  ⟨fun c h1 h2 => (h'.1 c h1 h2).trans (h.1 c h1 h2), fun m h1 h2 => ⟨(h'.2 m h1 h2).1.trans (h.2 m h1 h2).1, fun j j1 j2 => ((h'.2 m h1 h2).2 j j1 j2).trans ((h.2 m h1 h2).2 j j1 j2)⟩⟩
theorem FM.mono (h : FM lo hi lo2 hi2 D D') (q : ∀ m, (m < lo' ∨ hi' ≤ m) → (m < lo2' ∨ hi2' ≤ m) → (m < lo ∨ hi ≤ m) ∧ (m < lo2 ∨ hi2 ≤ m)) : FM lo' hi' lo2' hi2' D D' :=
  ⟨h.1, fun m h1 h2 => h.2 m (q m h1 h2).1 (q m h1 h2).2⟩
theorem FM.f1 (h : F1 n D D') (q : (lo ≤ n ∧ n < hi) ∨ (lo2 ≤ n ∧ n < hi2)) : FM lo hi lo2 hi2 D D' := FM.mono h fun m _ _ => by omega
theorem mr_w : mr (zw D 709 (100 * n + k) x) n = fun j => if j = k then x else mr D n j := by
  funext j
  unfold mr
  rw [zw_row]
  show (if 100 * n + j = 100 * n + k then x else D 709 (100 * n + j)) = _
  split
  · rw [if_pos (by omega)]
  · rw [if_neg (by omega)]
theorem mr_wo (hm : m ≠ n) (hk : 0 ≤ k ∧ k < 100) {j : Int} (hj : 0 ≤ j ∧ j < 100) : mr (zw D 709 (100 * n + k) x) m j = mr D m j := by
  unfold mr
  rw [zw_ne (Or.inr (by omega))]
theorem mr_s : mr (zw D 710 k x) m = mr D m := by
  unfold mr
  rw [zw_off (by decide)]
theorem F1.w9 (hk : 0 ≤ k ∧ k < 100) : F1 n D (zw D 709 (100 * n + k) x) :=
  ⟨fun c h1 _ => zw_off h1, fun m h1 h2 => ⟨by rw [zw_off (by decide)], fun j j1 j2 => mr_wo (by omega) hk ⟨j1, j2⟩⟩⟩
theorem F1.w0 : F1 n D (zw D 710 n x) :=
  ⟨fun c _ h1 => zw_off h1, fun m h1 h2 => ⟨zw_ne (Or.inr (by omega)), fun j j1 j2 => by rw [mr_s]⟩⟩
theorem Mn.loose (h : Mn D n v) : MnL D n v := ⟨h.1, h.2.1, h.2.2.2⟩
theorem Mn.nn (h : Mn D n v) : 0 ≤ v := by rw [← h.2.2.2]; exact Ds_nn MB_pos h.2.1
theorem Mn.lt (h : Mn D n v) : v < MB ^ (D 710 n).toNat := by rw [← h.2.2.2]; exact Ds_lt MB_pos h.2.1
theorem Mn.pos (h : Mn D n v) : 0 < D 710 n ↔ 0 < v := by
  have h1 := h.1
  constructor
  · intro q
    rcases h.2.2.1 with z | z
    · omega
    · have := pw_pos MB_pos (D 710 n - 1).toNat
      omega
  · intro q
    rcases Int.lt_or_le 0 (D 710 n) with z | z
    · exact z
    · have := h.2.2.2
      rw [Ds_neg z] at this
      omega
theorem Mn.size_le (h : Mn D n v) (hk : 0 ≤ k) (hv : v < MB ^ k.toNat) : D 710 n ≤ k := by
  rcases h.2.2.1 with z | z
  · omega
  · rcases Int.lt_or_le k (D 710 n) with y | y
    · have := pw_le MB_ge (x := k) (y := D 710 n - 1) (by omega)
      omega
    · exact y
theorem Mn.top (h : Mn D n v) (h0 : 0 < D 710 n) : mr D n (D 710 n - 1) ≠ 0 := by
  rcases h.2.2.1 with z | z
  · omega
  · exact Ds_top MB_pos h.2.1 h0 (by rw [h.2.2.2]; exact z)
theorem Mn.of (h : Mn D n v) (h0 : D' 710 n = D 710 n) (h1 : ∀ j, 0 ≤ j → j < 100 → mr D' n j = mr D n j) : Mn D' n v := by
  have b := h.1
  refine ⟨by rw [h0]; exact b, by rw [h0]; exact h.2.1.congr fun j j1 j2 => h1 j j1 (by omega), by rw [h0]; exact h.2.2.1, ?_⟩
  rw [h0, Ds_congr fun j j1 j2 => h1 j j1 (by omega)]
  exact h.2.2.2
theorem Mn.fm (h : Mn D m v) (f : FM lo hi lo2 hi2 D D') (q : (m < lo ∨ hi ≤ m) ∧ (m < lo2 ∨ hi2 ≤ m)) : Mn D' m v := h.of (f.2 m q.1 q.2).1 (f.2 m q.1 q.2).2
theorem Mn.f1 (h : Mn D m v) (f : F1 n D D') (q : m ≠ n) : Mn D' m v := h.fm f (by omega)
theorem Mn.eq (h : Mn D n v) (h' : Mn D n w) : v = w := h.2.2.2.symm.trans h'.2.2.2
theorem lt100 {x : Int} (h : MB ^ x.toNat < MB ^ 100) : x < 100 := by
  rcases Int.lt_or_le x 100 with z | z
  · exact z
  · have := pw_le MB_ge (x := 100) (y := x) z
    have e : MB ^ (100 : Int).toNat = MB ^ 100 := rfl
    omega
end MN0
section MN1
variable {g : GG} {D D0 : DD} {n m a b k v w : Int}
theorem mtrim_loop (hn : 0 ≤ n ∧ n < 260) {P : DD → Prop} : ∀ (s : Nat) (D : DD), D 710 n = s → MnL D n v → (∀ D', Mn D' n v → (∀ c, c ≠ 710 → D' c = D c) → (∀ m, m ≠ n → D' 710 m = D 710 m) → P D') → Sg g M_Mo_trim (rV P) 0 [vR 708, vI n] [] D := by
  intro s
  induction s with
  | zero =>
    intro D hs h hP
    have h1 := h.1
    have h3 := h.2.2
    rw [hs] at h3
    refine s_Mo_trim_0 ⟨hn, fun _ => retV (hP D ⟨h1, h.2.1, Or.inl (by omega), h.2.2⟩ (fun _ _ => rfl) (fun _ _ => rfl)), fun q => by omega⟩
  | succ s ih =>
    intro D hs h hP
    have h1 := h.1
    have e : D 709 (100 * n + D 710 n - 1) = mr D n (D 710 n - 1) := by unfold mr; rw [show 100 * n + D 710 n - 1 = 100 * n + (D 710 n - 1) by omega]
    refine s_Mo_trim_0 ⟨hn, fun q => by omega, fun _ => ⟨⟨by unfold R32; omega, hn, by unfold R32; omega, by unfold R32; omega, by omega⟩, fun q => ?_, fun q => ⟨⟨hn, by unfold R32; omega, hn⟩, fun D1 e1 => ?_⟩⟩⟩
    · rw [e] at q
      refine retV (hP D ⟨h1, h.2.1, Or.inr ?_, h.2.2⟩ (fun _ _ => rfl) (fun _ _ => rfl))
      rw [← h.2.2]
      exact Ds_ge MB_pos h.2.1 (by omega) q
    · rw [e] at q
      have r1 : D1 710 n = D 710 n - 1 := by rw [e1, zw_eq]
      have r2 : mr D1 n = mr D n := by rw [e1, mr_s]
      refine ih D1 (by omega) ⟨by omega, by rw [r1, r2]; exact h.2.1.mono (by omega), ?_⟩ (fun D' q1 q2 q3 => hP D' q1 (fun c hc => ?_) (fun m hm => ?_))
      · rw [r1, r2]
        have h3 := h.2.2
        rw [show D 710 n = D 710 n - 1 + 1 by omega, Ds_s (by omega), q] at h3
        omega
      · rw [q2 c hc, e1, zw_off hc]
      · rw [q3 m hm, e1, zw_ne (Or.inr hm)]
theorem mtrim_ok (hn : 0 ≤ n ∧ n < 260) (h : MnL D n v) : CV g M_Mo_trim [vR 708, vI n] D (fun D' => Mn D' n v ∧ F1 n D D') := by
  have h1 := h.1
  refine CV.intro mc_Mo_trim (Nat.le_of_ble_eq_true rfl) rfl (mtrim_loop hn (v := v) (D 710 n).toNat D (by omega) h (fun D' q1 q2 q3 => ⟨q1, fun c c1 c2 => q2 c c2, fun m m1 m2 => ⟨q3 m (by omega), fun j j1 j2 => ?_⟩⟩))
  unfold mr
  rw [q2 709 (by decide)]
theorem mset_loop (hn : 0 ≤ n ∧ n < 260) {P : DD → Prop} {X : Int} : ∀ (k : Nat) (x : Int) (D : DD) (z2 z3 : VV), 0 ≤ x → x < MB ^ k → D 710 n + k ≤ 100 → 0 ≤ D 710 n → Dg (mr D n) MB (D 710 n) → (D 710 n = 0 ∨ MB ^ (D 710 n - 1).toNat ≤ X) →
    Ds (mr D n) MB (D 710 n) + x * MB ^ (D 710 n).toNat = X → (∀ D', Mn D' n X → F1 n D D' → P D') → Sg g M_Mo_set (rV P) 10 [vR 708, vI n, z2, z3, vL x, vU] [] D := by
  intro k
  induction k with
  | zero =>
    intro x D z2 z3 hx hlt hs h0 hd ht hv hP
    have hx0 : x = 0 := by have : MB ^ 0 = 1 := rfl; omega
    subst hx0
    exact s_Mo_set_10 ⟨fun c => retV (hP D ⟨⟨h0, by omega⟩, hd, ht, by omega⟩ FM.rf), fun c => absurd (Int.le_refl 0) c⟩
  | succ k ih =>
    intro x D z2 z3 hx hlt hs h0 hd ht hv hP
    have hm0 : 0 ≤ x % 16777216 ∧ x % 16777216 < 16777216 := by omega
    refine s_Mo_set_10 ⟨fun c => ?_, fun c => ⟨⟨by unfold R32; omega, hn, by unfold R32; omega, hx, by unfold R32; omega, by omega⟩, fun D5 e5 => ?_⟩⟩
    · have hx0 : x = 0 := by omega
      subst hx0
      exact retV (hP D ⟨⟨h0, by omega⟩, hd, ht, by omega⟩ FM.rf)
    · have r5 : D5 710 n = D 710 n := by rw [e5, zw_off (by decide)]
      refine ⟨⟨hx, hn, by unfold R32; omega, hn⟩, fun D8 e8 => ?_⟩
      have r1 : D8 710 n = D 710 n + 1 := by rw [e8, zw_eq, r5]
      have r2 : mr D8 n = fun j => if j = D 710 n then x % 16777216 else mr D n j := by rw [e8, mr_s, e5, mr_w]
      have hb : MB ^ (k + 1) = MB ^ k * MB := Int.pow_succ _ _
      have hp := pw_pos MB_pos (D 710 n).toNat
      refine ih (x / 16777216) D8 _ _ ?_ ?_ ?_ ?_ ?_ ?_ ?_ (fun D' n1 f => hP D' n1 (FM.tr ?_ f))
      · omega
      · rw [hb] at hlt
        exact Int.ediv_lt_of_lt_mul (by decide) hlt
      · omega
      · omega
      · rw [r1, r2]; exact Dg_up hd (by simp only [MB]; omega)
      · rw [r1]
        refine Or.inr ?_
        rw [show D 710 n + 1 - 1 = D 710 n by omega, ← hv]
        have h1 := Ds_nn MB_pos hd
        have h2 : 1 * MB ^ (D 710 n).toNat ≤ x * MB ^ (D 710 n).toNat := Int.mul_le_mul_of_nonneg_right (by omega) (by omega)
        omega
      · rw [r1, r2, Ds_up h0, pw_s MB h0, ← hv]
        have hm : MB * (x / 16777216) + x % 16777216 = x := Int.mul_ediv_add_emod x 16777216
        generalize x / 16777216 = q at hm ⊢
        generalize x % 16777216 = r at hm ⊢
        rw [← hm]
        grind
      · rw [e8]
        exact FM.tr (by rw [e5]; exact F1.w9 (by omega)) F1.w0
theorem mset_ok (hn : 0 ≤ n ∧ n < 260) {x : Int} (hx : 0 ≤ x) : CV g M_Mo_set [vR 708, vI n, vL x] D (fun D' => Mn D' n x ∧ F1 n D D') := by
  refine CV.intro mc_Mo_set (Nat.le_of_ble_eq_true rfl) rfl (sg_ok fun h1 _ _ => s_Mo_set_0 ⟨hn, fun D1 e1 => ?_⟩)
  have hr : R64 x := h1 (vL x) (List.mem_cons_of_mem _ (List.mem_cons_of_mem _ List.mem_cons_self))
  have r1 : D1 710 n = 0 := by rw [e1, zw_eq]
  refine mset_loop hn (X := x) 3 x D1 _ _ hx (Int.lt_of_le_of_lt hr.2 (by decide)) (by rw [r1]; decide) (by rw [r1]; decide) (by rw [r1]; exact fun i _ _ => by omega) (Or.inl r1) ?_ (fun D' q f => ⟨q, FM.tr (by rw [e1]; exact F1.w0) f⟩)
  rw [r1, Ds_0]
  simp
theorem mcopy_loop (ha : 0 ≤ a ∧ a < 260) (hb : 0 ≤ b ∧ b < 260) (hab : a ≠ b) (h : Mn D0 a v) : ∀ (s : Nat) (x : Int) (D : DD), x + s = D0 710 a → 0 ≤ x → F1 b D0 D → D 710 b = D0 710 a → (∀ j, 0 ≤ j → j < x → mr D b j = mr D0 a j) → Sg g M_Mo_copy (rV (fun D' => Mn D' b v ∧ F1 b D0 D')) 14 [vR 708, vI a, vI b, vI x] [] D := by
  have h1 := h.1
  intro s
  induction s with
  | zero =>
    intro x D hs hx hf hz hj
    have e : D 710 a = D0 710 a := (hf.2 a (by omega) (by omega)).1
    refine s_Mo_copy_14 ⟨ha, fun _ => retV ⟨⟨by omega, ?_, by rw [hz]; exact h.2.2.1, ?_⟩, hf⟩, fun q => by omega⟩
    · rw [hz]; exact h.2.1.congr fun j j1 j2 => hj j j1 (by omega)
    · rw [hz, Ds_congr fun j j1 j2 => hj j j1 (by omega)]; exact h.2.2.2
  | succ s ih =>
    intro x D hs hx hf hz hj
    have e := hf.2 a (by omega) (by omega)
    refine s_Mo_copy_14 ⟨ha, fun q => by omega, fun _ => ⟨⟨by unfold R32; omega, by unfold R32; omega, by unfold R32; omega, by unfold R32; omega, by omega, by omega⟩, fun D1 e1 => ⟨by unfold R32; omega, ?_⟩⟩⟩
    refine ih (x + 1) D1 (by omega) (by omega) (hf.tr (by rw [e1]; exact F1.w9 (by omega))) (by rw [e1, zw_off (by decide)]; exact hz) (fun j j1 j2 => ?_)
    rw [e1, mr_w]
    show (if j = x then mr D a x else _) = _
    split
    · next q => rw [q]; exact e.2 x hx (by omega)
    · exact hj j j1 (by omega)
theorem mcopy_ok (ha : 0 ≤ a ∧ a < 260) (hb : 0 ≤ b ∧ b < 260) (hab : a ≠ b) (h : Mn D a v) : CV g M_Mo_copy [vR 708, vI a, vI b] D (fun D' => Mn D' b v ∧ F1 b D D') := by
  have h1 := h.1
  refine CV.intro mc_Mo_copy (Nat.le_of_ble_eq_true rfl) rfl (s_Mo_copy_0 ⟨⟨ha, hb⟩, fun D1 e1 => ?_⟩)
  exact mcopy_loop ha hb hab h (D 710 a).toNat 0 D1 (by omega) (by omega) (by rw [e1]; exact F1.w0) (by rw [e1, zw_eq]) (fun j j1 j2 => by omega)
theorem mpart_ok (hn : 0 ≤ n ∧ n < 260) (hk : 0 ≤ k ∧ k < 100) : CI g M_Mo_part [vR 708, vI n, vI k] D (fun x D' => D' = D ∧ x = pd (mr D n) (D 710 n) k) := by
  refine CI.intro mc_Mo_part (Nat.le_of_ble_eq_true rfl) rfl (s_Mo_part_0 ⟨hn, fun q => retI ⟨rfl, ?_⟩, fun q => ⟨⟨by unfold R32; omega, by unfold R32; omega, by omega⟩, retI ⟨rfl, ?_⟩⟩⟩)
  · unfold pd; rw [if_neg (by omega)]
  · unfold pd; rw [if_pos (by omega)]; rfl
theorem morder_loop (ha : 0 ≤ a ∧ a < 260) (hb : 0 ≤ b ∧ b < 260) (h : Mn D a v) (h' : Mn D b w) (hs : D 710 a = D 710 b) : ∀ (s : Nat) (x : Int) (z4 z5 : VV), x + 1 = s → x < D 710 a → (∀ j, x < j → j < D 710 a → mr D a j = mr D b j) →
    Sg g M_Mo_order (rI (fun y D' => D' = D ∧ y = scmp v w)) 45 [vR 708, vI a, vI b, vI x, z4, z5] [] D := by
  have h1 := h.1
  have e1 := h.2.2.2
  have e2 := h'.2.2.2
  intro s
  induction s with
  | zero =>
    intro x z4 z5 hx hl hj
    refine s_Mo_order_45 ⟨fun _ => retI ⟨rfl, ?_⟩, fun q => by omega⟩
    have : v = w := by
      rw [← e1, ← e2, ← hs]
      exact Ds_congr fun j j1 j2 => hj j (by omega) j2
    unfold scmp
    rw [if_neg (by omega), if_neg (by omega)]
  | succ s ih =>
    intro x z4 z5 hx hl hj
    refine s_Mo_order_45 ⟨fun q => by omega, fun _ => ⟨⟨by unfold R32; omega, by unfold R32; omega, by omega, by unfold R32; omega, by unfold R32; omega, by omega⟩, fun q => ⟨by unfold R32; omega, ?_⟩, fun q => ⟨fun q2 => retI ⟨rfl, ?_⟩, fun q2 => retI ⟨rfl, ?_⟩⟩⟩⟩
    · refine ih (x + -1) _ _ (by omega) (by omega) (fun j j1 j2 => ?_)
      rcases (show j = x ∨ x < j by omega) with z | z
      · rw [z]; exact q
      · exact hj j z j2
    · have : Ds (mr D b) MB (D 710 a) < Ds (mr D a) MB (D 710 a) := Ds_cmp MB_pos (by rw [hs]; exact h'.2.1) h.2.1 (x := x) ⟨by omega, hl⟩ (fun j j1 j2 => (hj j j1 j2).symm) (by unfold mr; omega)
      rw [e1, hs, e2] at this
      unfold scmp
      rw [if_neg (by omega), if_pos this]
    · have : Ds (mr D a) MB (D 710 a) < Ds (mr D b) MB (D 710 a) := Ds_cmp MB_pos h.2.1 (by rw [hs]; exact h'.2.1) (x := x) ⟨by omega, hl⟩ (fun j j1 j2 => hj j j1 j2) (by unfold mr; omega)
      rw [e1, hs, e2] at this
      unfold scmp
      rw [if_pos this]
theorem morder_ok (ha : 0 ≤ a ∧ a < 260) (hb : 0 ≤ b ∧ b < 260) (h : Mn D a v) (h' : Mn D b w) : CI g M_Mo_order [vR 708, vI a, vI b] D (fun x D' => D' = D ∧ x = scmp v w) := by
  have h1 := h.1
  have h2 := h'.1
  refine CI.intro mc_Mo_order (Nat.le_of_ble_eq_true rfl) rfl (s_Mo_order_0 ⟨⟨ha, hb⟩, fun q => ⟨⟨ha, by unfold R32; omega⟩, ?_⟩, fun q => ⟨⟨ha, hb⟩, fun q2 => retI ⟨rfl, ?_⟩, fun q2 => retI ⟨rfl, ?_⟩⟩⟩)
  · exact morder_loop ha hb h h' q (D 710 a).toNat _ _ _ (by omega) (by omega) (fun j j1 j2 => by omega)
  · have l1 := h'.lt
    have : w < v := by
      rcases h.2.2.1 with z | z
      · omega
      · have := pw_le MB_ge (x := D 710 b) (y := D 710 a - 1) (by omega)
        omega
    unfold scmp
    rw [if_neg (by omega), if_pos this]
  · have l1 := h.lt
    have : v < w := by
      rcases h'.2.2.1 with z | z
      · omega
      · have := pw_le MB_ge (x := D 710 a) (y := D 710 b - 1) (by omega)
        omega
    unfold scmp
    rw [if_pos this]
end MN1
