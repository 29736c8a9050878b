/-! the model's numbers: divide -/
theorem Ds_wm {f : Int → Int} {k s : Int} (hk : 0 ≤ k ∧ k < s) : Ds (wn f k) MB (s - k) = f k + Ds (wn f (k + 1)) MB (s - (k + 1)) * MB := by
  have h := Ds_wn (f := wn f k) (b := MB) (x := 1) (n := s - (k + 1)) (by decide) (by omega)
  rw [wn_wn, show 1 + (s - (k + 1)) = s - k by omega] at h
  have e1 : Ds (wn f k) MB 1 = f k := by
    rw [show (1 : Int) = 0 + 1 from rfl, Ds_s (Int.le_refl 0), Ds_0]
    have e : MB ^ (0 : Int).toNat = 1 := rfl
    rw [e]
    show 0 + f (k + 0) * 1 = f k
    rw [Int.add_zero]
    omega
  have e2 : MB ^ (1 : Int).toNat = MB := rfl
  rw [h, e1, e2]
theorem Ds_wc {f h : Int → Int} {k n : Int} (q : ∀ j, k ≤ j → j < k + n → f j = h j) : Ds (wn f k) MB n = Ds (wn h k) MB n := Ds_congr fun i h1 h2 => q (k + i) (by omega) (by omega)
section MN5
variable {g : GG} {D D0 D1 : DD} {n v w : Int}
theorem minc (h : Mn D 252 v) (h0 : 0 < v) (hev : v % 2 = 0) (e : D1 = zw D 709 25200 (D 709 25200 + 1)) : R32 (D 709 25200 + 1) ∧ Mn D1 252 (v + 1) ∧ F1 252 D D1 := by
  have hs := h.pos.mpr h0
  have hb := h.1
  have hd := h.2.1 0 (by decide) hs
  have ed : D 709 25200 = mr D 252 0 := by unfold mr; rw [show (100 * 252 + 0 : Int) = 25200 from rfl]
  have ev := even_digit (f := mr D 252) hs
  rw [h.2.2.2, hev] at ev
  have hd2 : 0 ≤ mr D 252 0 + 1 ∧ mr D 252 0 + 1 < MB := by
    simp only [MB] at hd ⊢
    omega
  have hd3 := hd2
  simp only [MB] at hd3
  have e' : D1 = zw D 709 (100 * 252 + 0) (mr D 252 0 + 1) := by rw [e, ed]; rfl
  have f : F1 252 D D1 := by rw [e']; exact F1.w9 (by decide)
  have r1 : D1 710 252 = D 710 252 := by rw [e', zw_off (by decide)]
  have r2 : mr D1 252 = fun j => if j = 0 then mr D 252 0 + 1 else mr D 252 j := by rw [e', mr_w]
  refine ⟨by rw [ed]; unfold R32; omega, ⟨by rw [r1]; exact hb, by rw [r1, r2]; exact Dg_set h.2.1 hd2, ?_, ?_⟩, f⟩
  · rw [r1]
    rcases h.2.2.1 with z | z
    · exact Or.inl z
    · exact Or.inr (by omega)
  · rw [r1, r2, Ds_set ⟨by decide, hs⟩, h.2.2.2]
    have : MB ^ (0 : Int).toNat = 1 := rfl
    rw [this]
    omega
/-- a bit of long division -/
theorem bit_step {H d G q a r b : Int} (h : H * 2 ^ (23 - b).toNat + d / 2 ^ (b + 1).toNat = (q * 2 ^ (23 - b).toNat + a) * G + r) (hb : 0 ≤ b ∧ b ≤ 23) (c : Int) :
    H * 2 ^ (23 - (b - 1)).toNat + d / 2 ^ b.toNat = (q * 2 ^ (23 - (b - 1)).toNat + (2 * a + c)) * G + (2 * r + d / 2 ^ b.toNat % 2 - c * G) := by
  have e1 : (2 : Int) ^ (23 - (b - 1)).toNat = 2 ^ (23 - b).toNat * 2 := by rw [show 23 - (b - 1) = 23 - b + 1 by omega, pw_s 2 (by omega)]
  have e2 : d / 2 ^ (b + 1).toNat = d / 2 ^ b.toNat / 2 := by rw [pw_s 2 hb.1, ← Int.ediv_ediv_of_nonneg (Int.le_of_lt (pw_pos (by decide) _))]
  have e3 := Int.mul_ediv_add_emod (d / 2 ^ b.toNat) 2
  rw [e2] at h
  rw [e1]
  generalize d / 2 ^ b.toNat = y at *
  generalize y / 2 = y2 at *
  generalize y % 2 = y0 at *
  rw [← e3]
  grind
theorem mdv_bits (hn : 0 ≤ n ∧ n < 248) {G H d qh k : Int} (hG : 0 < G) (hG2 : 2 * G < MB ^ 100) (hd : 0 ≤ d ∧ d < MB) (hk : 0 ≤ k ∧ k < 100) {Q : Option VV → EE → DD → Prop}
    (hq : ∀ x r D, FM 252 253 252 253 D1 D → Mn D 252 r → 0 ≤ r → r < G → 0 ≤ x → x < MB → H * MB + d = (qh * MB + x) * G + r → ∀ x4, x4 < 0 → Sg g M_Mo_divide Q 38 [vR 708, vI n, vI k, vI x, vI x4] [] D)
    (hg : Mn D1 248 G) (h251 : mr D1 251 k = d) : ∀ (s : Nat) (b a r : Int) (D : DD), b + 1 = s → b ≤ 23 → FM 252 253 252 253 D1 D → Mn D 252 r → 0 ≤ r → r < G → 0 ≤ a → a + 1 ≤ 2 ^ (23 - b).toNat → H * 2 ^ (23 - b).toNat + d / 2 ^ (b + 1).toNat = (qh * 2 ^ (23 - b).toNat + a) * G + r →
    Sg g M_Mo_divide Q 38 [vR 708, vI n, vI k, vI (a * 2 ^ (b + 1).toNat), vI b] [] D := by
  intro s
  induction s with
  | zero =>
    intro b a r D hs hb hf hr hr0 hrG ha0 ha1 he
    have hb1 : b = -1 := by omega
    subst hb1
    have e0 : (2 : Int) ^ ((-1 : Int) + 1).toNat = 1 := rfl
    have e1 : (2 : Int) ^ (23 - (-1 : Int)).toNat = MB := by decide
    rw [e0, e1, Int.ediv_one] at he
    rw [e1] at ha1
    rw [e0, Int.mul_one]
    exact hq a r D hf hr hr0 hrG ha0 (by omega) he (-1) (by decide)
  | succ s ih =>
    intro b a r D hs hb hf hr hr0 hrG ha0 ha1 he
    have hb0 : 0 ≤ b := by omega
    have hfg := hg.fm hf (by decide)
    have e251 : D 709 (25100 + k) = d := by
      have := (hf.2 251 (by decide) (by decide)).2 k hk.1 hk.2
      rw [← h251, ← this]
      unfold mr
      rfl
    have p2 := pw_pos (b := 2) (by decide) b.toNat
    have pb : (2 : Int) ^ b.toNat ≤ 8388608 := ipow_le (n := b.toNat) (m := 23) (by omega)
    have e1 : (2 : Int) ^ (23 - (b - 1)).toNat = 2 ^ (23 - b).toNat * 2 := by rw [show 23 - (b - 1) = 23 - b + 1 by omega, pw_s 2 (by omega)]
    have e4 : (2 : Int) ^ (23 - b).toNat * 2 ^ (b + 1).toNat = 16777216 := by
      rw [← pw_add 2 (by omega) (by omega), show 23 - b + (b + 1) = 24 by omega]
      decide
    have e5 : (2 : Int) ^ (b + 1).toNat = 2 ^ b.toNat * 2 := pw_s 2 hb0
    have hx3 : 0 ≤ a * 2 ^ (b + 1).toNat ∧ (a + 1) * 2 ^ (b + 1).toNat ≤ 16777216 := by
      refine ⟨Int.mul_nonneg ha0 (by omega), ?_⟩
      rw [← e4]
      exact Int.mul_le_mul_of_nonneg_right ha1 (by omega)
    rw [Int.add_mul, Int.one_mul] at hx3
    -- behind the doubling and the bit
    have fin : ∀ y D2, y = d / 2 ^ b.toNat % 2 → FM 252 253 252 253 D1 D2 → Mn D2 252 (2 * r + y) → Sg g M_Mo_divide Q 104 [vR 708, vI n, vI k, vI (a * 2 ^ (b + 1).toNat), vI b] [] D2 := by
      intro y D2 hy f2 h2
      have hy2 : 0 ≤ y ∧ y ≤ 1 := by omega
      refine s_Mo_divide_104 ((morder_ok (by decide) (by decide) h2 (hg.fm f2 (by decide))).mono fun z D3 q => ?_)
      obtain ⟨rfl, rfl⟩ := q
      refine s_Mo_divide_114 ⟨fun q => s_Mo_divide_137 ⟨by unfold R32; omega, ?_⟩, fun q => ?_⟩
      · have hlt : 2 * r + y < G := by
          unfold scmp at q
          split at q
          · omega
          · split at q <;> omega
        have key := ih (b + -1) (2 * a + 0) (2 * r + y) D3 (by omega) (by omega) f2 h2 (by omega) hlt (by omega) (by rw [show b + -1 = b - 1 by omega, e1]; omega) (by
          have := bit_step he ⟨hb0, hb⟩ 0
          rw [← hy] at this
          rw [show b + -1 = b - 1 by omega, show b - 1 + 1 = b by omega, this]
          congr 1
          omega)
        rw [show b + -1 + 1 = b by omega, show (2 * a + 0) * 2 ^ b.toNat = a * 2 ^ (b + 1).toNat by rw [e5]; grind] at key
        exact key
      · have hge : G ≤ 2 * r + y := by
          unfold scmp at q
          split at q
          · omega
          · omega
        refine (msub_ok (by decide) (by decide) (by decide) (by decide) h2 (hg.fm f2 (by decide)) hge).mono fun D4 r4 => s_Mo_divide_130 ⟨⟨⟨⟨hb0, by omega⟩, by unfold R32; omega⟩, ⟨⟨hx3.1, by omega, (b + 1).toNat, Or.inl ⟨Int.mul_emod_left _ _, by rw [e5]; omega⟩⟩, by unfold R32; omega⟩⟩, s_Mo_divide_137 ⟨by unfold R32; omega, ?_⟩⟩
        have key := ih (b + -1) (2 * a + 1) (2 * r + y - G) D4 (by omega) (by omega) (f2.tr (FM.f1 r4.2 (by omega))) r4.1 (by omega) (by omega) (by omega) (by rw [show b + -1 = b - 1 by omega, e1]; omega) (by
          have := bit_step he ⟨hb0, hb⟩ 1
          rw [← hy, Int.one_mul] at this
          rw [show b + -1 = b - 1 by omega, show b - 1 + 1 = b by omega, this])
        rw [show b + -1 + 1 = b by omega, show (2 * a + 1) * 2 ^ b.toNat = a * 2 ^ (b + 1).toNat + 1 * 2 ^ b.toNat by rw [e5]; grind] at key
        exact key
    refine s_Mo_divide_38 ⟨fun q => by omega, fun _ => (mtimes_ok (by decide) hr (f := 2) (by decide) (by omega)).mono fun D2 r2 => ?_⟩
    have f2 : FM 252 253 252 253 D1 D2 := hf.tr (FM.f1 r2.2 (by omega))
    have e251b : D2 709 (25100 + k) = d := by
      have := (f2.2 251 (by decide) (by decide)).2 k hk.1 hk.2
      rw [← h251, ← this]
      unfold mr
      rfl
    have e21 : (2 : Int) ^ 1 = 2 := rfl
    refine s_Mo_divide_51 ⟨⟨by unfold R32; omega, by omega, ⟨hb0, by omega⟩⟩, ?_⟩
    rw [e251b, e21]
    refine ⟨fun q => fin 0 D2 (by omega) f2 (by rw [Int.add_zero, Int.mul_comm]; exact r2.1), fun q => ⟨fun q2 => ?_, fun q2 => ?_⟩⟩
    · have hs0 := r2.1.1
      have hpos := r2.1.pos.mp (by omega)
      have mi := fun D7 e7 => minc (D1 := D7) r2.1 hpos (by omega) e7
      refine ⟨(mi _ rfl).1, fun D7 e7 => fin 1 D7 q.symm (f2.tr (FM.f1 (mi D7 e7).2.2 (by omega))) ?_⟩
      rw [Int.mul_comm]
      exact (mi D7 e7).2.1
    · have hs0 := r2.1.pos
      have hr00 : r * 2 = 0 := by omega
      refine (mset_ok (by decide) (x := 1) (by decide)).mono fun D7 r7 => s_Mo_divide_89 (fin 1 D7 q.symm (f2.tr (FM.f1 r7.2 (by omega))) ?_)
      rw [show 2 * r + 1 = 1 by omega]
      exact r7.1
theorem mdv_outer (hn : 0 ≤ n ∧ n < 248) {G s : Int} (hG : 0 < G) (hG2 : 2 * G < MB ^ 100) (hs : 0 ≤ s ∧ s ≤ 100) (hg : Mn D0 248 G) (hd251 : Dg (mr D0 251) MB s) : ∀ (m : Nat) (k r : Int) (D : DD) (z3 z4 : VV), k + 1 = m → k < s → FM n (n + 1) 252 253 D0 D → D 710 n = s → Dg (mr D n) MB s → Mn D 252 r → 0 ≤ r → r < G → Ds (wn (mr D0 251) (k + 1)) MB (s - (k + 1)) = Ds (wn (mr D n) (k + 1)) MB (s - (k + 1)) * G + r →
    Sg g M_Mo_divide (rV (fun D' => Mn D' n (Ds (mr D0 251) MB s / G) ∧ FM n (n + 1) 252 253 D0 D')) 28 [vR 708, vI n, vI k, z3, z4] [] D := by
  intro m
  induction m with
  | zero =>
    intro k r D z3 z4 hm hks hf hz hd hr hr0 hrG he
    have hk : k = -1 := by omega
    subst hk
    rw [show (-1 : Int) + 1 = 0 from rfl, wn_0, wn_0, Int.sub_zero] at he
    have hq : Ds (mr D0 251) MB s / G = Ds (mr D n) MB s := by
      rw [he, Int.add_comm, Int.add_mul_ediv_right _ _ (by omega), Int.ediv_eq_zero_of_lt hr0 hrG]
      omega
    refine s_Mo_divide_28 ⟨fun _ => ?_, fun q => by omega⟩
    exact (mtrim_ok (n := n) (by omega) (v := Ds (mr D0 251) MB s / G) ⟨by omega, by rw [hz]; exact hd, by rw [hz, hq]⟩).mono fun D' r => s_Mo_divide_166 (retV ⟨r.1, hf.tr (FM.f1 r.2 (by omega))⟩)
  | succ m ih =>
    intro k r D z3 z4 hm hks hf hz hd hr hr0 hrG he
    have hk0 : 0 ≤ k := by omega
    have e251 : mr D 251 k = mr D0 251 k := (hf.2 251 (by omega) (by omega)).2 k hk0 (by omega)
    have hdk := hd251 k hk0 hks
    refine s_Mo_divide_28 ⟨fun q => by omega, fun _ => ?_⟩
    have key := mdv_bits (g := g) (D1 := D) hn (G := G) (H := Ds (wn (mr D0 251) (k + 1)) MB (s - (k + 1))) (d := mr D0 251 k) (qh := Ds (wn (mr D n) (k + 1)) MB (s - (k + 1))) (k := k) hG hG2 hdk ⟨hk0, by omega⟩ (Q := rV (fun D' => Mn D' n (Ds (mr D0 251) MB s / G) ∧ FM n (n + 1) 252 253 D0 D'))
      (fun x r2 D2 f2 hr2 hr20 hr2G hx0 hx1 hh x4 hx4 => ?_) (hg.fm hf (by omega)) e251 24 23 0 r D (by decide) (by decide) FM.rf hr hr0 hrG (by decide) (by decide) ?_
    · rw [show (0 : Int) * 2 ^ ((23 : Int) + 1).toNat = 0 by rw [Int.zero_mul]] at key
      exact key
    · refine s_Mo_divide_38 ⟨fun _ => ⟨⟨by unfold R32; omega, by unfold R32; omega, by omega⟩, fun D5 e5 => ⟨by unfold R32; omega, ?_⟩⟩, fun q => by omega⟩
      have fn := f2.2 n (by omega) (by omega)
      have r1 : mr D5 n = fun j => if j = k then x else mr D2 n j := by rw [e5, mr_w]
      have f5 : F1 n D2 D5 := by rw [e5]; exact F1.w9 (by omega)
      refine ih (k + -1) r2 D5 _ _ (by omega) (by omega) ((hf.tr (FM.mono f2 fun m _ _ => by omega)).tr (FM.f1 f5 (by omega))) (by rw [e5, zw_off (by decide), fn.1]; exact hz) ?_ (hr2.f1 f5 (by omega)) hr20 hr2G ?_
      · rw [r1]
        exact Dg_set (hd.congr fun j j1 j2 => fn.2 j j1 (by omega)) ⟨hx0, hx1⟩
      · rw [show k + -1 + 1 = k by omega, Ds_wm ⟨hk0, hks⟩, Ds_wm (f := mr D5 n) ⟨hk0, hks⟩]
        have e6 : Ds (wn (mr D5 n) (k + 1)) MB (s - (k + 1)) = Ds (wn (mr D n) (k + 1)) MB (s - (k + 1)) := Ds_wc fun j j1 j2 => by
          rw [r1]
          show (if j = k then x else mr D2 n j) = _
          rw [if_neg (by omega)]
          exact fn.2 j (by omega) (by omega)
        have e7 : mr D5 n k = x := by rw [r1]; exact if_pos rfl
        rw [e6, e7, Int.add_comm, hh]
        grind
    · have e8 : (2 : Int) ^ (23 - (23 : Int)).toNat = 1 := rfl
      have e9 : (2 : Int) ^ ((23 : Int) + 1).toNat = MB := by decide
      rw [e8, e9, Int.ediv_eq_zero_of_lt hdk.1 hdk.2, Int.mul_one, Int.mul_one, Int.add_zero, Int.add_zero]
      exact he
theorem mdivide_ok (hn : 0 ≤ n ∧ n < 248) {G : Int} (h : Mn D n v) (hg : Mn D 248 G) (hG : 0 < G) (hG2 : 2 * G < MB ^ 100) : CV g M_Mo_divide [vR 708, vI n] D (fun D' => Mn D' n (v / G) ∧ FM n (n + 1) 251 253 D D') := by
  have h1 := h.1
  refine CV.intro mc_Mo_divide (Nat.le_of_ble_eq_true rfl) rfl (s_Mo_divide_0 ((mcopy_ok (by omega) (by decide) (by omega) h).mono fun D2 r2 => s_Mo_divide_8 fun D3 e3 => ?_))
  have hs2 := (r2.2.2 n (by omega) (by omega)).1
  have f3 : F1 252 D2 D3 := by rw [e3]; exact F1.w0
  have h251 := r2.1.f1 f3 (by decide)
  have s251 : D3 710 251 = D 710 n := by
    have q1 := h251.size_le (k := D 710 n) (by omega) h.lt
    rcases h.2.2.1 with z | z
    · have := h251.1; omega
    · rcases Int.lt_or_le (D3 710 251) (D 710 n) with y | y
      · have := pw_le MB_ge (x := D3 710 251) (y := D 710 n - 1) (by omega)
        have := h251.lt
        omega
      · omega
  have hnf := (h.f1 r2.2 (by omega)).f1 f3 (by omega)
  have sn : D3 710 n = D 710 n := by rw [(f3.2 n (by omega) (by omega)).1, hs2]
  refine ⟨by unfold R32; omega, ?_⟩
  rw [s251]
  have h252 : Mn D3 252 0 := by
    have q : D3 710 252 = 0 := by rw [e3, zw_eq]
    exact ⟨by omega, by rw [q]; exact fun i _ _ => by omega, Or.inl q, by rw [q, Ds_0]⟩
  have key := mdv_outer (g := g) (D0 := D3) hn (s := D 710 n) hG hG2 h1 ((hg.f1 r2.2 (by decide)).f1 f3 (by decide)) (by rw [← s251]; exact h251.2.1) (D 710 n).toNat (D 710 n - 1) 0 D3 vU vU (by omega) (by omega) FM.rf sn (by rw [← sn]; exact hnf.2.1) h252 (by decide) hG (by rw [show D 710 n - (D 710 n - 1 + 1) = 0 by omega, Ds_0, Ds_0]; omega)
  have ev : Ds (mr D3 251) MB (D 710 n) = v := by rw [← s251]; exact h251.2.2.2
  rw [ev] at key
  exact zg_post key (fun r E' D' q => ⟨q.1, q.2.1, q.2.2.1, (FM.tr (FM.f1 r2.2 (by omega)) (FM.f1 f3 (by omega))).tr (q.2.2.2.mono fun m _ _ => by omega)⟩)
end MN5
