/-! what holds between two calls -/
theorem edf_pos {n : Nat} {r d w : Nat → Int} {pl : Nat → Nat} {x : Nat → Rat} (hpl : Pl n d pl) (hw : ∀ j, j < n → 0 < w j) {j t u : Nat} (hj : j < n) (h0 : 0 < edf n pl r w x t j) (h1 : edf n pl r w x u j = 0) : t < u := by
  refine Decidable.byContradiction fun z => ?_
  have := edf_le (r := r) (x := x) hpl hw hj (t := u) (t - u)
  rw [show u + (t - u) = t by omega, h1] at this
  grind
theorem En.unique {n : Nat} {r d w : Nat → Int} {pl : Nat → Nat} {x x' : Nat → Rat} (hpl : Pl n d pl) (hw : ∀ j, j < n → 0 < w j) {j : Nat} (hj : j < n) {y y' : Rat} (h : En n r w pl x j y) (h' : En n r w pl x' j y') (e : ∀ t, t < 200 → x t = x' t) : y = y' := by
  obtain ⟨t, p, a1, a2, a3, a4, a5, a6⟩ := h
  obtain ⟨t', p', b1, b2, b3, b4, b5, b6⟩ := h'
  have c : ∀ u, u ≤ 200 → edf n pl r w x u = edf n pl r w x' u := fun u hu => edf_congr fun v hv => e v (by omega)
  rw [← c t' (by omega)] at b4
  rw [← c (t' + 1) (by omega)] at b5
  have l1 := edf_pos hpl hw hj a4 b5
  have l2 := edf_pos hpl hw hj b4 a5
  obtain rfl : t = t' := by omega
  obtain rfl := hpl.inj a2 b2 (by rw [a3, b3])
  rw [a6, b6, c t (by omega), e t a1]
theorem Wk.unique {n : Nat} {r d w : Nat → Int} {pl : Nat → Nat} {x x' : Nat → Rat} (hpl : Pl n d pl) (hw : ∀ j, j < n → 0 < w j) {t : Nat} (ht : t < 200) {v v' : Int} (h : Wk n r w pl x t v) (h' : Wk n r w pl x' t v') (e : ∀ t, t < 200 → x t = x' t) : v = v' := by
  have c : edf n pl r w x t = edf n pl r w x' t := edf_congr fun v hv => e v (by omega)
  rcases h with ⟨a1, a2⟩ | ⟨a1, p, a2, a3, a4, a5⟩
  · rcases h' with ⟨b1, b2⟩ | ⟨b1, _⟩
    · rw [a2, b2]
    · rw [← e t ht, a1] at b1; exact absurd b1 Rat.lt_irrefl
  · rcases h' with ⟨b1, b2⟩ | ⟨b1, p', b2, b3, b4, b5⟩
    · rw [e t ht, b1] at a1; exact absurd a1 Rat.lt_irrefl
    · rw [← c, ← e t ht] at b4 b5
      have inv := edf_inv (r := r) (x := x) hpl hw t
      have mono := fun (q q' : Nat) (h1 : q ≤ q') (h2 : q' ≤ n) => cum_mono (el := fun j => r j ≤ (t : Int)) (R := edf n pl r w x t) hpl inv.1 h1 h2
      rcases Nat.lt_trichotomy p p' with y | y | y
      · have := mono (p + 1) p' (by omega) (by omega)
        grind
      · rw [a3, b3, y]
      · have := mono (p' + 1) p (by omega) (by omega)
        grind
theorem su_cub {x x' : Nat → Rat} (e : ∀ t, t < 200 → x t = x' t) : su (cub x) 200 = su (cub x') 200 := su_congr fun t ht => by unfold cub; rw [e t ht]
theorem FL.unique {n : Nat} {r d : Nat → Int} {fi la fi' la' : Nat} (h : FL n r d fi la) (h' : FL n r d fi' la') : fi = fi' ∧ la = la' := by
  rcases h with ⟨a, b, c⟩ | ⟨a, ⟨j, b1, b2⟩, c, ⟨i, e1, e2⟩, f⟩
  · rcases h' with ⟨a', b', c'⟩ | ⟨a', _⟩
    · omega
    · omega
  · rcases h' with ⟨a', b', c'⟩ | ⟨a', ⟨j', b1', b2'⟩, c', ⟨i', e1', e2'⟩, f'⟩
    · omega
    · have x1 := c j' b1'
      have x2 := c' j b1
      have x3 := f i' e1'
      have x4 := f' i e1
      omega
theorem Runs.congr {x x' : Nat → Rat} {f m n : Nat} {b e : Nat → Nat} {rt : Nat → Rat} (h : Runs x f m n b e rt) (hm : m ≤ 200) (q : ∀ t, t < 200 → x t = x' t) : Runs x' f m n b e rt := by
  have pos := h.pos
  exact ⟨h.1, h.2.1, fun i hi => ⟨(h.2.2.1 i hi).1, fun t t1 t2 => by
    have := pos i hi
    rw [← q t (by omega)]; exact (h.2.2.1 i hi).2 t t1 t2⟩, h.2.2.2⟩
def bnd (y : Rat) : Prop := y.num < 2 ^ 475 ∧ ((y.den : Nat) : Int) < 2 ^ 475
/-- the two profiles are one -/
theorem prof_same {D : DD} {a cb ce cw : Nat} {sp en co fs : Int} {n : Nat} {r d w : Nat → Int} {pl : Nat → Nat} {x x' : Nat → Rat} (f : JF n r d w pl) (hc : PF D a n r d w pl x) (hm : MPF D cb ce cw sp en co fs n r d w pl x') (e : ∀ t, t < 200 → x t = x' t) {L : Int} (sz : SZ x 200 L) :
    (∃ fi la n' b e' rt, FL n r d fi la ∧ PR D a n' b e' rt ∧ MPR D cb ce sp fs n' b e' rt ∧ Runs x fi la n' b e' rt ∧ ∀ i, i < n' → bnd (rt i)) ∧
    (∀ j : Nat, j < n → ∃ y, Fq D (a + 131 + 5 * j) y ∧ Mq D (en + j) y ∧ bnd y) ∧ (∀ u : Nat, u < 200 → D (a + 5) u = D cw u) ∧ ∃ y, Fq D (a + 6) y ∧ Mq D co y ∧ bnd y := by
  have hpl := f.2.2.2
  have wp : ∀ j, j < n → 0 < w j := fun j hj => (f.2.2.1 j hj).1
  obtain ⟨⟨fi, la, n', b, e', rt, c1, c2, c3⟩, c4, c5, c6, c7, c8⟩ := hc
  obtain ⟨⟨fi', la', n2, b2, e2, rt2, m1, m2, m3⟩, m4, m5, m6⟩ := hm
  obtain ⟨rfl, rfl⟩ := c1.unique m1
  have fb := c1.bd f
  have m3' := m3.congr fb.2.1 (fun t ht => (e t ht).symm)
  obtain ⟨rfl, u⟩ := c3.unique m3' (fun _ _ => trivial)
  refine ⟨⟨fi, la, n', b, e', rt, c1, c2, ⟨m2.1, m2.2.1, fun i hi => ?_⟩, c3, fun i hi => ?_⟩, fun j hj => ?_, fun t ht => (c5 t ht).unique hpl wp ht (m5 t ht) e, ⟨_, c6, by rw [su_cub e]; exact m6, c7, ?_⟩⟩
  · have a := m2.2.2 i hi
    have v := u i hi
    rw [v.1, v.2.1, v.2.2]; exact a
  · have s := (c3.sz fb.2.1 sz).nd hi
    have b1 : (2 : Int) ^ 154 < 2 ^ 475 := by decide
    have b2 : (2 : Int) ^ 140 < 2 ^ 475 := by decide
    exact ⟨by omega, by omega⟩
  · obtain ⟨y, y1, y2, y3, y4⟩ := c4 j hj
    obtain ⟨y', z1, z2⟩ := m4 j hj
    rw [← y1.unique hpl wp hj z1 e] at z2
    exact ⟨y, y2, z2, y3, y4⟩
  · have b2 : (2 : Int) ^ 420 < 2 ^ 475 := by decide
    omega
theorem pl_eq {D : DD} {n : Nat} {r d w : Nat → Int} {pl : Nat → Nat} {x x' : Nat → Rat} (hc : PlC D n r d w pl x) (hm : PlM D n r d w pl x') : ∀ t, t < 200 → x t = x' t := by
  obtain ⟨⟨G, _, _, c, _, e⟩, _⟩ := hc
  obtain ⟨_, _, _, gs, gj, G', W, T, c', e'⟩ := hm
  rw [e, e']
  exact c.unique c'
/-- the planned part -/
def IPl (D : DD) (n : Nat) (r d w : Nat → Int) (pl : Nat → Nat) : Prop := (D 9 0 = 0 ∧ D 708 10 = 0) ∨ (D 9 0 = 1 ∧ D 708 10 = 1 ∧ ∃ x x', PlC D n r d w pl x ∧ PlM D n r d w pl x')
def IAh (D : DD) (n : Nat) (r d w : Nat → Int) (pl : Nat → Nat) : Prop := (D 200 0 = 0 ∧ D 708 11 = 0) ∨ (D 200 0 = 1 ∧ D 708 11 = 1 ∧ ∃ x, Ah n r d w pl x ∧ AhC D n r d w pl x ∧ AhM D n r d w pl x)
def SPL (D : DD) (n : Nat) : Prop := (∀ j : Nat, j < n → D 574 j = D 731 j ∧ D 575 j = D 732 j ∧ (∃ y, Fq D (583 + 10 * j) y ∧ Mq D (84 + j) y ∧ bnd y) ∧ ∃ y, Fq D (588 + 10 * j) y ∧ Mq D (96 + j) y ∧ bnd y) ∧ ∃ y, Fq D 578 y ∧ Mq D 110 y ∧ bnd y
def ISp (D : DD) (n : Nat) : Prop := (D 573 0 = 0 ∧ D 708 12 = 0) ∨ (D 573 0 = 1 ∧ D 708 12 = 1 ∧ SPL D n)
def ITx (D : DD) : Prop := ∃ len : Int, D 703 1 = len ∧ D 708 33 = len ∧ 0 ≤ len ∧ len ≤ 721 ∧ ∀ i : Nat, (i : Int) < len → D 704 i = D 733 i
def IZ (D : DD) : Prop := D 463 0 = 0 ∧ Fq D 465 0
/-- jobs and levels -/
def IJL (D : DD) (n : Nat) (r d w : Nat → Int) (pl : Nat → Nat) (lv : Nat) (rt ct : Nat → Int) : Prop := JF n r d w pl ∧ JC D n r d w pl ∧ JM D n r d w ∧ LF lv rt ct ∧ LC D lv rt ct ∧ LM D lv rt ct
def INV (D : DD) : Prop := ∃ n r d w pl lv rt ct, IJL D n r d w pl lv rt ct ∧ IPl D n r d w pl ∧ IAh D n r d w pl ∧ ISp D n ∧ ITx D ∧ IZ D
/-- a plan, seen from both sides -/
theorem IPl.both {D : DD} {n : Nat} {r d w : Nat → Int} {pl : Nat → Nat} (f : JF n r d w pl) (h : IPl D n r d w pl) (h1 : D 9 0 ≠ 0) : D 708 10 = 1 ∧ ∃ x L, SZ x 200 L ∧ PG D n r d w x ∧
    (∃ fi la n' b e rt, FL n r d fi la ∧ PR D 9 n' b e rt ∧ MPR D 723 724 0 20 n' b e rt ∧ MB2 D n' b e rt ∧ SM n' rt ∧ Runs x fi la n' b e rt ∧ ∀ i, i < n' → bnd (rt i)) ∧
    (∀ j : Nat, j < n → ∃ y, Fq D (140 + 5 * j) y ∧ Mq D (48 + j) y ∧ bnd y) ∧ (∀ u : Nat, u < 200 → D 14 u = D 727 u) ∧ (∃ y, Fq D 15 y ∧ Mq D 108 y ∧ bnd y) ∧
    ∀ j : Nat, j < n → 0 ≤ D 461 j ∧ D 461 j < D 457 0 ∧ ∃ y, Fq D (470 + 5 * (D 461 j).toNat) y ∧ Mq D (72 + j) y ∧ bnd y ∧ D 720 j = y.num ∧ D 721 j = ((y.den : Nat) : Int) ∧ y = sdk (D 458) (D 459) (D 461 j) := by
  rcases h with h | ⟨_, h2, x, x', hc, hm⟩
  · exact absurd h.1 h1
  · have e := pl_eq hc hm
    obtain ⟨⟨G, g1, g2, g3, g4, g5⟩, ⟨L, sz⟩, pf⟩ := hc
    obtain ⟨mf, m2, m3, _⟩ := hm
    obtain ⟨⟨fi, la, n', b, e', rt, a1, a2, a3, a4, a5⟩, p2, p3, p4⟩ := prof_same f pf mf e sz
    have fb := a1.bd f
    have sm : SM n' rt := a4.sm fb.2.1 (by rw [g5]; exact g3.sm f.1 f.2.2.1)
    refine ⟨h2, x, L, sz, ⟨G, g1, g2, g3, g4, g5⟩, ⟨fi, la, n', b, e', rt, a1, a2, a3, ⟨a3.1, a3.2.1, fun i hi => ?_⟩, sm, a4, a5⟩, p2, p3, p4, fun j hj => ?_⟩
    · have q := a3.2.2 i hi
      obtain ⟨y, y1, y2, y3⟩ := m2 i (by rw [a3.1]; omega)
      have ne : (rt i).num = y.num := q.2.2.1.eq y1.1
      have de : (((rt i).den : Nat) : Int) = ((y.den : Nat) : Int) := q.2.2.2.eq y1.2
      exact ⟨q.1, q.2.1, by rw [y2, ne], by rw [y3, de]⟩
    · have gj := g3.gj0 j hj
      have gj' : 0 ≤ D 461 j ∧ D 461 j < G := gj
      obtain ⟨y, y1, y2, y3, y4⟩ := m3 j hj
      have js := g3.js f.2.2.2 hj
      rw [← g5] at js
      have ye : sdk (D 458) (D 459) (gjD D j) = y := js.unique y1 e
      have w1 := g3.Wb f.1 f.2.2.1 gj.1 gj.2
      have t1 := g3.Tb gj.1 gj.2
      have ll := low_le (p := D 458 (gjD D j)) (q := D 459 (gjD D j)) (by omega) t1.1
      have b1 : (2 : Int) ^ 30 < 2 ^ 475 := by decide
      have fq := g4 (D 461 j).toNat (by omega)
      rw [Int.toNat_of_nonneg gj'.1] at fq
      have fe : sdk (D 458) (D 459) (D 461 j) = y := ye
      rw [fe] at fq
      have yd : y = (D 458 (gjD D j) : Rat) / (D 459 (gjD D j) : Rat) := ye.symm
      rw [← yd] at ll
      exact ⟨gj'.1, by omega, y, fq, y2, ⟨by omega, by omega⟩, y3, y4, fe.symm⟩
theorem IAh.both {D : DD} {n : Nat} {r d w : Nat → Int} {pl : Nat → Nat} (f : JF n r d w pl) (h : IAh D n r d w pl) (h1 : D 200 0 ≠ 0) : D 708 11 = 1 ∧ ∃ x, Ah n r d w pl x ∧
    (∃ fi la n' b e rt, FL n r d fi la ∧ PR D 200 n' b e rt ∧ MPR D 728 729 24 26 n' b e rt ∧ Runs x fi la n' b e rt ∧ ∀ i, i < n' → bnd (rt i)) ∧
    (∀ j : Nat, j < n → ∃ y, Fq D (331 + 5 * j) y ∧ Mq D (60 + j) y ∧ bnd y) ∧ (∀ u : Nat, u < 200 → D 205 u = D 730 u) ∧ (∃ y, Fq D 206 y ∧ Mq D 109 y ∧ bnd y) ∧ Fq D 206 (su (cub x) 200) := by
  rcases h with h | ⟨_, h2, x, hx, hc, hm⟩
  · exact absurd h.1 h1
  · obtain ⟨⟨L, sz⟩, pf⟩ := hc
    have pc := pf.2.2.2.1
    obtain ⟨p1, p2, p3, p4⟩ := prof_same f pf hm (fun _ _ => rfl) sz
    exact ⟨h2, x, hx, p1, p2, p3, p4, pc⟩
