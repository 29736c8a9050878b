/-! the model's AHEAD: whoAt -/
theorem cN_flat {f : Nat → Bool} {a : Nat} : ∀ {k : Nat}, cN f (a + k) = cN f a → ∀ q, a ≤ q → q < a + k → f q = false
  | 0, _, q, h1, h2 => by omega
  | k + 1, h, q, h1, h2 => by
    have m : ∀ k, cN f a ≤ cN f (a + k) := fun k => by
      induction k with
      | zero => exact Nat.le_refl _
      | succ k ih => show cN f a ≤ cN f (a + k) + _; omega
    have e : cN f (a + (k + 1)) = cN f (a + k) + if f (a + k) then 1 else 0 := rfl
    have mk := m k
    rcases (show q = a + k ∨ q < a + k by omega) with y | y
    · rw [y]
      rcases Bool.eq_false_or_eq_true (f (a + k)) with z | z
      · rw [e, z] at h; simp only [if_true] at h; omega
      · exact z
    · refine cN_flat (k := k) ?_ q h1 y
      rw [e] at h
      split at h <;> omega
theorem cN_up {f : Nat → Bool} {a : Nat} : ∀ k : Nat, cN f a ≤ cN f (a + k)
  | 0 => Nat.le_refl _
  | k + 1 => by have := cN_up (f := f) (a := a) k; show cN f a ≤ cN f (a + k) + _; omega
theorem cN_at {f : Nat → Bool} {p : Nat} (h : f p = true) : cN f (p + 1) = cN f p + 1 := by
  show cN f p + _ = _
  rw [h]; rfl
section MAH3
variable {g : GG} {D D' D0 : DD} {n : Nat} {r d w v : Nat → Int} {pl : Nat → Nat} {R : Nat → Rat} {c K : Int} {t : Nat}
theorem MFS.rf {lo hi lo2 hi2 : Int} (h : MFS D n R c v) (hn : n ≤ 12) (f : RF lo hi lo2 hi2 D D') (q : (243 ≤ lo ∨ hi ≤ 230) ∧ (243 ≤ lo2 ∨ hi2 ≤ 230)) : MFS D' n R c v :=
  ⟨h.1.rw f (by omega), h.2.1, h.2.2.1, fun j hj => ⟨(h.2.2.2 j hj).1.rw f (by omega), (h.2.2.2 j hj).2⟩⟩
theorem cum_flat (hpl : Pl n d pl) {a b : Nat} (hab : a ≤ b) (hb : b ≤ n) (q : ∀ q, a ≤ q → q < b → r (pl q) ≤ (t : Int) → R (pl q) = 0) : cum (fun j => r j ≤ (t : Int)) R pl b = cum (fun j => r j ≤ (t : Int)) R pl a := by
  obtain ⟨k, rfl⟩ : ∃ k, b = a + k := ⟨b - a, by omega⟩
  clear hab
  induction k with
  | zero => rfl
  | succ k ih =>
    have e := ih (by omega) fun x x1 x2 => q x x1 (by omega)
    rw [show a + (k + 1) = (a + k) + 1 from rfl]
    rcases Classical.em (r (pl (a + k)) ≤ (t : Int)) with y | y
    · rw [cum_t y, q (a + k) (by omega) (by omega) y, e, Rat.add_zero]
    · rw [cum_f y, e]
/-- open, in rational numbers -/
theorem opb_iff {q : Nat} {u : Int} (hv : Mn D (230 + (pl q : Int)) u) (hu : (u : Rat) = R (pl q) * (K : Rat)) (hK : 0 < K) (hR : 0 ≤ R (pl q)) (dead : d (pl q) ≤ (t : Int) → R (pl q) = 0) : opb D r d pl t q = true ↔ r (pl q) ≤ (t : Int) ∧ 0 < R (pl q) := by
  have Kq : (0 : Rat) < (K : Rat) := Rat.intCast_pos.mpr hK
  have e : 0 < u ↔ 0 < R (pl q) := by
    rw [← Rat.intCast_pos, hu]
    constructor
    · intro y
      rcases Rat.le_iff_lt_or_eq.mp hR with z | z
      · exact z
      · rw [← z, Rat.zero_mul] at y; exact absurd y Rat.lt_irrefl
    · exact fun y => Rat.mul_pos y Kq
  have p := hv.pos
  unfold opb
  rw [decide_eq_true_iff, p, e]
  constructor
  · exact fun y => ⟨y.1, y.2.2⟩
  · refine fun y => ⟨y.1, ?_, y.2⟩
    refine Decidable.byContradiction fun z => ?_
    have := dead (by omega)
    rw [this] at y
    exact absurd y.2 Rat.lt_irrefl
theorem whoAt_loop (f : JF n r d w pl) (h0 : JM D0 n r d w) (hR : ∀ j, j < n → 0 ≤ R j ∧ R j ≤ 1000) (hv : MFS D0 n R K v) (dead : ∀ j, j < n → d j ≤ (t : Int) → R j = 0) (ht : t < 200) {k : Nat} {s : Rat} {T : Int} (hT : (T : Rat) = (k : Rat) * s * (K : Rat)) (hlt : (k : Rat) * s < cum (fun j => r j ≤ (t : Int)) R pl n) :
    ∀ (m a : Nat) (y S : Int) (D : DD) (z2 : VV), n ≤ a + m → a ≤ n → RF 244 246 244 246 D0 D → (∀ c, c ≠ 709 → c ≠ 710 → D c = D0 c) → Mn D 244 T → Mn D 245 S → (S : Rat) = cum (fun j => r j ≤ (t : Int)) R pl a * (K : Rat) → cum (fun j => r j ≤ (t : Int)) R pl a ≤ (k : Rat) * s → IO D n r d pl t (cN (opb D0 r d pl t) a) y →
      Sg g M_Mo_whoAt (rI (fun y D' => FM 244 246 244 246 D0 D' ∧ ∃ p, p < n ∧ y = pl p ∧ cum (fun j => r j ≤ (t : Int)) R pl p ≤ (k : Rat) * s ∧ (k : Rat) * s < cum (fun j => r j ≤ (t : Int)) R pl (p + 1))) 37 [vR 708, vI t, z2, vI (cN (opb D0 r d pl t) a), vI y] [] D := by
  have hn := f.1
  have hpl := f.2.2.2
  have mb := MB200
  have hK := hv.2.1
  have Kq : (0 : Rat) < (K : Rat) := Rat.intCast_pos.mpr hK
  have hR0 : ∀ j, j < n → 0 ≤ R j := fun j hj => (hR j hj).1
  have p1 := pow200' (k := 12000) ⟨hK, hv.2.2.1⟩ (by omega)
  have ob : ∀ q, q < n → (opb D0 r d pl t q = true ↔ r (pl q) ≤ (t : Int) ∧ 0 < R (pl q)) := fun q hq => by
    have a := hv.2.2.2 (pl q) (hpl.1 q hq)
    exact opb_iff a.1 a.2 hK (hR0 _ (hpl.1 q hq)) (dead _ (hpl.1 q hq))
  have zero : ∀ q, q < n → opb D0 r d pl t q = false → r (pl q) ≤ (t : Int) → R (pl q) = 0 := fun q hq z y => by
    have := hR0 _ (hpl.1 q hq)
    have : ¬ 0 < R (pl q) := fun x => by
      have := (ob q hq).mpr ⟨y, x⟩
      rw [this] at z
      cases z
    grind
  intro m
  induction m with
  | zero =>
    intro a y S D z2 hm ha F C hT2 hS eS le io
    obtain rfl : a = n := by omega
    exfalso
    grind
  | succ m ih =>
    intro a y S D z2 hm ha F C hT2 hS eS le io
    have so : ∀ q, q < n → D 710 (230 + (pl q : Int)) = D0 710 (230 + (pl q : Int)) := fun q hq => (F _ (by have := hpl.1 q hq; omega) (by have := hpl.1 q hq; omega)).1
    have oe : ∀ q, q < n → opb D r d pl t q = opb D0 r d pl t q := fun q hq => by unfold opb; rw [so q hq]
    have ce : ∀ m, m ≤ n → cN (opb D r d pl t) m = cN (opb D0 r d pl t) m := fun m hm => by
      induction m with
      | zero => rfl
      | succ m ih => show cN _ m + _ = cN _ m + _; rw [ih (by omega), oe m (by omega)]
    rcases io with ⟨i1, i2⟩ | ⟨p, i1, i2, i3, i4⟩
    · exfalso
      rw [ce n (Nat.le_refl n)] at i2
      have up := cN_up (f := opb D0 r d pl t) (a := a) (n - a)
      rw [show a + (n - a) = n by omega] at up
      have fl := cN_flat (f := opb D0 r d pl t) (a := a) (k := n - a) (by rw [show a + (n - a) = n by omega]; omega)
      have := cum_flat (r := r) (R := R) (t := t) hpl (show a ≤ n by omega) (Nat.le_refl n) (fun q q1 q2 q3 => zero q q2 (fl q q1 (by omega)) q3)
      grind
    · rw [ce p (by omega)] at i4
      rw [oe p i1] at i2
      have op := (ob p i1).mp i2
      have cp := cN_at i2
      have ap : a ≤ p := by
        refine Decidable.byContradiction fun z => ?_
        have up := cN_up (f := opb D0 r d pl t) (a := p + 1) (a - (p + 1))
        rw [show p + 1 + (a - (p + 1)) = a by omega] at up
        omega
      have fl := cN_flat (f := opb D0 r d pl t) (a := a) (k := p - a) (by rw [show a + (p - a) = p by omega]; omega)
      have fe := cum_flat (r := r) (R := R) (t := t) hpl ap (by omega) (fun q q1 q2 q3 => zero q (by omega) (fl q q1 (by omega)) q3)
      have c1 := cum_t (R := R) (pl := pl) (el := fun j => r j ≤ (t : Int)) (p := p) op.1
      have hj := hpl.1 p i1
      obtain ⟨nv, ev⟩ := hv.2.2.2 (pl p) hj
      have nv' : Mn D (230 + (pl p : Int)) (v (pl p)) := nv.rw F (by omega)
      have es1 : ((S + v (pl p) : Int) : Rat) = cum (fun j => r j ≤ (t : Int)) R pl (p + 1) * (K : Rat) := by rw [Rat.intCast_add, eS, ev, c1, fe]; grind
      have sb := int_bd es1 (cum_nn hpl hR0 (by omega)) (cum12 hpl (by omega) hn hR) hK
      subst i3
      refine s_Mo_whoAt_37 ⟨fun q => by omega, fun _ => ⟨by unfold R32; omega, (madd_ok (a := 245) (b := 230 + (pl p : Int)) (t := 245) (by omega) (by omega) (by omega) (by omega) hS nv' (by omega)).mono fun D2 r2 => s_Mo_whoAt_58 ((morder_ok (a := 245) (b := 244) (by omega) (by omega) r2.1 (hT2.f1 r2.2 (by omega))).mono fun y D3 r3 => ?_)⟩⟩
      obtain ⟨rfl, rfl⟩ := r3
      have F3 : RF 244 246 244 246 D0 D3 := F.tr (FM.f1 (lo := 244) (hi := 246) (lo2 := 244) (hi2 := 246) r2.2 (by omega)).rows
      have C3 : ∀ c, c ≠ 709 → c ≠ 710 → D3 c = D0 c := fun c c1 c2 => (r2.2.1 c c1 c2).trans (C c c1 c2)
      have cmp : T < S + v (pl p) ↔ (k : Rat) * s < cum (fun j => r j ≤ (t : Int)) R pl (p + 1) := by
        rw [← Rat.intCast_lt_intCast, hT, es1]; exact Rat.mul_lt_mul_right Kq
      have jm : JM D3 n r d w := h0.of (by rw [C3 708 (by omega) (by omega)]) fun c c1 c2 => C3 c (by omega) (by omega)
      refine s_Mo_whoAt_68 ⟨fun q => ⟨by unfold R32; have := cN_le (f := opb D0 r d pl t) a; omega, ?_⟩, fun q => retI ⟨⟨C3, F3⟩, p, i1, rfl, by rw [fe]; exact le, ?_⟩⟩
      · have e1 : (cN (opb D0 r d pl t) a : Int) + 1 = (cN (opb D0 r d pl t) (p + 1) : Nat) := by omega
        rw [e1]
        refine (inOrder_ok f jm (by omega) (by have := cN_le (f := opb D0 r d pl t) (p + 1); omega)).mono fun y D4 r4 => s_Mo_whoAt_83 ?_
        obtain ⟨rfl, io⟩ := r4
        exact ih (p + 1) y _ D4 _ (by omega) (by omega) F3 C3 (hT2.f1 r2.2 (by omega)) r2.1 es1 (Rat.not_lt.mp fun z => by
          have := cmp.mpr z
          unfold scmp at q
          rw [if_neg (by omega), if_pos this] at q
          omega) io
      · refine cmp.mp ?_
        unfold scmp at q
        split at q
        · omega
        · split at q
          · assumption
          · omega
theorem whoAt_ok (f : JF n r d w pl) (h0 : JM D n r d w) (hR : ∀ j, j < n → 0 ≤ R j ∧ R j ≤ 1000) (hv : MFS D n R K v) (dead : ∀ j, j < n → d j ≤ (t : Int) → R j = 0) (ht : t < 200) {k : Nat} {s : Rat} {bv : Int} (hk : k ≤ 200) (hs : 0 < s) (hbv : (bv : Rat) = s * (K : Rat)) (hb : Mn D 243 bv) (hb2 : bv * 200 < 2 ^ 260) (hlt : (k : Rat) * s < cum (fun j => r j ≤ (t : Int)) R pl n) :
    CI g M_Mo_whoAt [vR 708, vI t, vI k] D (fun y D' => FM 244 246 244 246 D D' ∧ ∃ p, p < n ∧ y = pl p ∧ cum (fun j => r j ≤ (t : Int)) R pl p ≤ (k : Rat) * s ∧ (k : Rat) * s < cum (fun j => r j ≤ (t : Int)) R pl (p + 1)) := by
  have mb := MB200
  have hn := f.1
  have b0 := hb.nn
  have bk : bv * (k : Int) ≤ bv * 200 := Int.mul_le_mul_of_nonneg_left (by omega) b0
  refine CI.intro mc_Mo_whoAt (Nat.le_of_ble_eq_true rfl) rfl (s_Mo_whoAt_0 ((mcopy_ok (a := 243) (b := 244) (by omega) (by omega) (by omega) hb).mono fun D1 r1 => s_Mo_whoAt_10 ((mtimes_ok (n := 244) (by omega) r1.1 (by omega) (by omega)).mono fun D2 r2 => s_Mo_whoAt_18 fun D3 e3 => ?_)))
  have F3 : FM 244 246 244 246 D D3 := ((FM.f1 r1.2 (by omega)).tr (FM.f1 r2.2 (by omega))).tr (by rw [e3]; exact FM.f1 F1.w0 (by omega))
  have jm : JM D3 n r d w := h0.of (by rw [F3.1 708 (by omega) (by omega)]) fun c c1 c2 => F3.1 c (by omega) (by omega)
  refine (inOrder_ok f jm (by omega) (by omega)).mono fun y D4 r4 => s_Mo_whoAt_35 ?_
  obtain ⟨rfl, io⟩ := r4
  have e : cN (opb D r d pl t) 0 = 0 := rfl
  have go := whoAt_loop (g := g) f h0 hR hv dead ht (k := k) (s := s) (T := bv * k) (by rw [Rat.intCast_mul, hbv, show (((k : Nat) : Int) : Rat) = (k : Rat) from rfl]; grind) hlt n 0 y 0 D4 vU (by omega) (by omega) F3.rows (fun c c1 c2 => F3.1 c c1 c2) (r2.1.f1 (n := 245) (by rw [e3]; exact F1.w0) (by omega)) (by rw [e3]; exact mn_zero) (by rw [cum_0, Rat.zero_mul]; rfl) (by rw [cum_0]; exact Rat.mul_nonneg Rat.natCast_nonneg (Rat.le_of_lt hs)) (by rw [e]; exact io)
  rw [e] at go
  exact go
end MAH3
