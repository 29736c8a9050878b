/-! what is kept between two calls -/
def rowsL (m : Int) : Prop := (0 ≤ m ∧ m < 48) ∨ (96 ≤ m ∧ m < 120) ∨ (144 ≤ m ∧ m < 168) ∨ (216 ≤ m ∧ m < 218)
def rowsS (m : Int) : Prop := (168 ≤ m ∧ m < 216) ∨ (220 ≤ m ∧ m < 222)
def rows0 (m : Int) : Prop := 0 ≤ m ∧ m < 222
section KEEP
variable {g : GG} {D D' D'' : DD} {n lv : Nat} {r d w rt ct : Nat → Int} {pl : Nat → Nat} {S S' : Int → Prop}
theorem RK.sub (h : RK S D D') (q : ∀ m, S' m → S m) : RK S' D D' := fun m hm => h m (q m hm)
theorem JC.kp (h : JC D n r d w pl) (q : ∀ c, 1 ≤ c → c < 6 → D' c = D c) : JC D' n r d w pl := by
  unfold JC at h ⊢
  rw [q 1 (by omega) (by omega), q 2 (by omega) (by omega), q 3 (by omega) (by omega), q 4 (by omega) (by omega), q 5 (by omega) (by omega)]
  exact h
theorem JM.kp (h : JM D n r d w) (q3 : D' 708 3 = D 708 3) (q : ∀ c, 711 ≤ c → c < 714 → D' c = D c) : JM D' n r d w := by
  unfold JM at h ⊢
  rw [q3, q 711 (by omega) (by omega), q 712 (by omega) (by omega), q 713 (by omega) (by omega)]
  exact h
theorem LC.kp (h : LC D lv rt ct) (q : ∀ c, 6 ≤ c → c < 9 → D' c = D c) : LC D' lv rt ct := by
  unfold LC at h ⊢
  rw [q 6 (by omega) (by omega), q 7 (by omega) (by omega), q 8 (by omega) (by omega)]
  exact h
theorem LM.kp (h : LM D lv rt ct) (q3 : D' 708 7 = D 708 7) (q : ∀ c, 714 ≤ c → c < 716 → D' c = D c) : LM D' lv rt ct := by
  unfold LM at h ⊢
  rw [q3, q 714 (by omega) (by omega), q 715 (by omega) (by omega)]
  exact h
theorem PF.kp {a : Nat} {x : Nat → Rat} (h : PF D a n r d w pl x) (hn : n ≤ 12) (q : ∀ c, a ≤ c → c < a + 191 → D' c = D c) : PF D' a n r d w pl x := by
  obtain ⟨⟨fi, la, n', b, e, rt, h1, h2, h3⟩, h4, h5, h6, h7⟩ := h
  have h24 := h2.2.1
  refine ⟨⟨fi, la, n', b, e, rt, h1, ⟨by rw [q a (by omega) (by omega)]; exact h2.1, h24, fun i hi => ?_⟩, h3⟩, fun j hj => ?_, fun u hu => by rw [q (a + 5) (by omega) (by omega)]; exact h5 u hu, h6.cells fun c c1 c2 => q c (by omega) (by omega), h7⟩
  · have z := h2.2.2 i hi
    exact ⟨by rw [q (a + 1) (by omega) (by omega)]; exact z.1, by rw [q (a + 2) (by omega) (by omega)]; exact z.2.1, z.2.2.cells fun c c1 c2 => q c (by omega) (by omega)⟩
  · obtain ⟨y, y1, y2, y3⟩ := h4 j hj
    exact ⟨y, y1, y2.cells fun c c1 c2 => q c (by omega) (by omega), y3⟩
theorem MPF.kp {cb ce cw : Nat} {s en co fs : Int} {x : Nat → Rat} (h : MPF D cb ce cw s en co fs n r d w pl x) (hn : n ≤ 12) (q0 : D' 708 fs = D 708 fs) (q1 : D' cb = D cb) (q2 : D' ce = D ce) (q3 : D' cw = D cw) (k : RK S D D') (s1 : ∀ m, 2 * s ≤ m → m < 2 * s + 48 → S m) (s2 : ∀ m, 2 * en ≤ m → m < 2 * en + 24 → S m) (s3 : ∀ m, 2 * co ≤ m → m < 2 * co + 2 → S m) : MPF D' cb ce cw s en co fs n r d w pl x := by
  obtain ⟨⟨fi, la, n', b, e, rt, h1, h2, h3⟩, h4, h5, h6⟩ := h
  have h24 := h2.2.1
  refine ⟨⟨fi, la, n', b, e, rt, h1, ⟨by rw [q0]; exact h2.1, h24, fun i hi => ?_⟩, h3⟩, fun j hj => ?_, fun u hu => by rw [q3]; exact h5 u hu, h6.rk k ⟨s3 _ (by omega) (by omega), s3 _ (by omega) (by omega)⟩⟩
  · have z := h2.2.2 i hi
    exact ⟨by rw [q1]; exact z.1, by rw [q2]; exact z.2.1, z.2.2.rk k ⟨s1 _ (by omega) (by omega), s1 _ (by omega) (by omega)⟩⟩
  · obtain ⟨y, y1, y2⟩ := h4 j hj
    exact ⟨y, y1, y2.rk k ⟨s2 _ (by omega) (by omega), s2 _ (by omega) (by omega)⟩⟩
theorem PlC.kp {x : Nat → Rat} (h : PlC D n r d w pl x) (hn : n ≤ 12) (q : ∀ c, (9 ≤ c ∧ c < 200) ∨ (457 ≤ c ∧ c < 530) → D' c = D c) : PlC D' n r d w pl x :=
  ⟨h.1.of fun c c1 c2 _ => q c (by omega), h.2.1, h.2.2.kp hn fun c c1 c2 => q c (by omega)⟩
theorem PlM.kp {x : Nat → Rat} (h : PlM D n r d w pl x) (hn : n ≤ 12) (q0 : D' 708 20 = D 708 20) (q : ∀ c, (720 ≤ c ∧ c < 722) ∨ (723 ≤ c ∧ c < 728) → D' c = D c) (k : RK rowsL D D') : PlM D' n r d w pl x := by
  obtain ⟨h1, h2, h3, h4⟩ := h
  have c24 : D 708 20 ≤ 24 := by
    obtain ⟨⟨fi, la, n', b, e, rt, _, p, _⟩, _⟩ := h1
    have := p.1
    have := p.2.1
    omega
  refine ⟨h1.kp hn q0 (q _ (by omega)) (q _ (by omega)) (q _ (by omega)) k (fun m _ _ => Or.inl (by omega)) (fun m _ _ => Or.inr (Or.inl (by omega))) (fun m _ _ => Or.inr (Or.inr (Or.inr (by omega)))), fun i hi => ?_, fun j hj => ?_, h4⟩
  · rw [q0] at hi
    obtain ⟨y, y1, y2, y3⟩ := h2 i hi
    exact ⟨y, y1.rk k ⟨Or.inl (by omega), Or.inl (by omega)⟩, by rw [q 725 (by omega)]; exact y2, by rw [q 726 (by omega)]; exact y3⟩
  · obtain ⟨y, y1, y2, y3, y4⟩ := h3 j hj
    exact ⟨y, y1, y2.rk k ⟨Or.inr (Or.inr (Or.inl (by omega))), Or.inr (Or.inr (Or.inl (by omega)))⟩, by rw [q 720 (by omega)]; exact y3, by rw [q 721 (by omega)]; exact y4⟩
theorem IPl.kp (h : IPl D n r d w pl) (hn : n ≤ 12) (q : ∀ c, (9 ≤ c ∧ c < 200) ∨ (457 ≤ c ∧ c < 530) ∨ (720 ≤ c ∧ c < 722) ∨ (723 ≤ c ∧ c < 728) → D' c = D c) (q1 : D' 708 10 = D 708 10) (q2 : D' 708 20 = D 708 20) (k : RK rowsL D D') : IPl D' n r d w pl := by
  unfold IPl
  rw [q 9 (by omega), q1]
  rcases h with h | ⟨h1, h2, x, x', hc, hm⟩
  · exact Or.inl h
  · exact Or.inr ⟨h1, h2, x, x', hc.kp hn fun c hc => q c (by omega), hm.kp hn q2 (fun c hc => q c (by omega)) k⟩
theorem IAh.kp (h : IAh D n r d w pl) (hn : n ≤ 12) (q : ∀ c, (200 ≤ c ∧ c < 391) ∨ (728 ≤ c ∧ c < 731) → D' c = D c) (q1 : D' 708 11 = D 708 11) (q2 : D' 708 26 = D 708 26) (k : RK rowsA D D') : IAh D' n r d w pl := by
  unfold IAh
  rw [q 200 (by omega), q1]
  rcases h with h | ⟨h1, h2, x, hx, hc, hm⟩
  · exact Or.inl h
  · exact Or.inr ⟨h1, h2, x, hx, ⟨hc.1, hc.2.kp hn fun c _ _ => q c (by omega)⟩, hm.kp hn q2 (q _ (by omega)) (q _ (by omega)) (q _ (by omega)) k (fun m _ _ => Or.inl (by omega)) (fun m _ _ => Or.inr (Or.inl (by omega))) (fun m _ _ => Or.inr (Or.inr (by omega)))⟩
theorem SPL.kp (h : SPL D n) (hn : n ≤ 12) (q : ∀ c, (574 ≤ c ∧ c < 703) ∨ (731 ≤ c ∧ c < 733) → D' c = D c) (k : RK rowsS D D') : SPL D' n := by
  refine ⟨fun j hj => ?_, ?_⟩
  · obtain ⟨h1, h2, ⟨y, y1, y2, y3⟩, ⟨z, z1, z2, z3⟩⟩ := h.1 j hj
    refine ⟨by rw [q 574 (by omega), q 731 (by omega)]; exact h1, by rw [q 575 (by omega), q 732 (by omega)]; exact h2, ⟨y, y1.cells fun c _ _ => q c (by omega), y2.rk k ⟨Or.inl (by omega), Or.inl (by omega)⟩, y3⟩, ⟨z, z1.cells fun c _ _ => q c (by omega), z2.rk k ⟨Or.inl (by omega), Or.inl (by omega)⟩, z3⟩⟩
  · obtain ⟨y, y1, y2, y3⟩ := h.2
    exact ⟨y, y1.cells fun c _ _ => q c (by omega), y2.rk k ⟨Or.inr (by omega), Or.inr (by omega)⟩, y3⟩
theorem ISp.kp (h : ISp D n) (hn : n ≤ 12) (q0 : D' 573 0 = D 573 0) (q : ∀ c, (574 ≤ c ∧ c < 703) ∨ (731 ≤ c ∧ c < 733) → D' c = D c) (q1 : D' 708 12 = D 708 12) (k : RK rowsS D D') : ISp D' n := by
  unfold ISp
  rw [q0, q1]
  rcases h with h | ⟨h1, h2, h3⟩
  · exact Or.inl h
  · exact Or.inr ⟨h1, h2, h3.kp hn q k⟩
theorem ITx.kp (h : ITx D) (q0 : D' 703 1 = D 703 1) (q1 : D' 704 = D 704) (q2 : D' 708 33 = D 708 33) (q3 : D' 733 = D 733) : ITx D' := by
  unfold ITx at h ⊢
  rw [q0, q1, q2, q3]
  exact h
theorem IZ.kp (h : IZ D) (q : ∀ c, 463 ≤ c → c < 470 → D' c = D c) : IZ D' := ⟨by rw [q 463 (by omega) (by omega)]; exact h.1, h.2.cells fun c _ _ => q c (by omega) (by omega)⟩
theorem IJL.kp (h : IJL D n r d w pl lv rt ct) (q : ∀ c, (1 ≤ c ∧ c < 9) ∨ (711 ≤ c ∧ c < 716) → D' c = D c) (q1 : D' 708 3 = D 708 3) (q2 : D' 708 7 = D 708 7) : IJL D' n r d w pl lv rt ct :=
  ⟨h.1, h.2.1.kp fun c _ _ => q c (by omega), h.2.2.1.kp q1 fun c _ _ => q c (by omega), h.2.2.2.1, h.2.2.2.2.1.kp fun c _ _ => q c (by omega), h.2.2.2.2.2.kp q2 fun c _ _ => q c (by omega)⟩
/-- all but the text -/
def INC (D : DD) (n : Nat) (r d w : Nat → Int) (pl : Nat → Nat) (lv : Nat) (rt ct : Nat → Int) : Prop := IJL D n r d w pl lv rt ct ∧ IPl D n r d w pl ∧ IAh D n r d w pl ∧ ISp D n ∧ IZ D
theorem INC.inv (h : INC D n r d w pl lv rt ct) (t : ITx D) : INV D := ⟨n, r, d, w, pl, lv, rt, ct, h.1, h.2.1, h.2.2.1, h.2.2.2.1, t, h.2.2.2.2⟩
theorem INV.inc (h : INV D) : ITx D ∧ ∃ n r d w pl lv rt ct, INC D n r d w pl lv rt ct := by
  obtain ⟨n, r, d, w, pl, lv, rt, ct, h1, h2, h3, h4, h5, h6⟩ := h
  exact ⟨h5, n, r, d, w, pl, lv, rt, ct, h1, h2, h3, h4, h6⟩
def KP (D D' : DD) : Prop := (∀ c, (1 ≤ c ∧ c < 391) ∨ (457 ≤ c ∧ c < 703) ∨ (711 ≤ c ∧ c < 733) → D' c = D c) ∧ (∀ k : Int, k ≠ 0 → k ≠ 33 → D' 708 k = D 708 k) ∧ RK rows0 D D'
theorem KP.rf : KP D D := ⟨fun _ _ => rfl, fun _ _ _ => rfl, RK.rf⟩
theorem KP.tr (h : KP D D') (h' : KP D' D'') : KP D D'' := ⟨fun c hc => (h'.1 c hc).trans (h.1 c hc), fun k k1 k2 => (h'.2.1 k k1 k2).trans (h.2.1 k k1 k2), h.2.2.tr h'.2.2⟩
theorem KP.w0 {i v : Int} (hi : i = 0 ∨ i = 33) : KP D (zw D 708 i v) := ⟨fun c hc => zw_off (by omega), fun k k1 k2 => zw_ne (Or.inr (by omega)), RK.off (zw_off (by omega)) (zw_off (by omega))⟩
theorem KP.fr (h : FR 391 457 391 457 D D') : KP D D' := ⟨fun c hc => h c (by omega) (by omega), fun k _ _ => by rw [h 708 (by omega) (by omega)], RK.off (h 709 (by omega) (by omega)) (h 710 (by omega) (by omega))⟩
theorem KP.fm {lo hi lo2 hi2 : Int} (h : FM lo hi lo2 hi2 D D') (q : 222 ≤ lo ∧ 222 ≤ lo2) : KP D D' := ⟨fun c hc => h.1 c (by omega) (by omega), fun k _ _ => by rw [h.1 708 (by omega) (by omega)], h.rows.rk fun m hm => by unfold rows0 at hm; omega⟩
theorem INC.kp (h : INC D n r d w pl lv rt ct) (q : KP D D') : INC D' n r d w pl lv rt ct := by
  have hn := h.1.1.1
  obtain ⟨q1, q2, q3⟩ := q
  refine ⟨h.1.kp (fun c hc => q1 c (by omega)) (q2 _ (by omega) (by omega)) (q2 _ (by omega) (by omega)), h.2.1.kp hn (fun c hc => q1 c (by omega)) (q2 _ (by omega) (by omega)) (q2 _ (by omega) (by omega)) (q3.sub fun m hm => ?_), h.2.2.1.kp hn (fun c hc => q1 c (by omega)) (q2 _ (by omega) (by omega)) (q2 _ (by omega) (by omega)) (q3.sub fun m hm => ?_), h.2.2.2.1.kp hn (by rw [q1 573 (by omega)]) (fun c hc => q1 c (by omega)) (q2 _ (by omega) (by omega)) (q3.sub fun m hm => ?_), h.2.2.2.2.kp fun c _ _ => q1 c (by omega)⟩
  · unfold rowsL at hm; unfold rows0; omega
  · unfold rowsA at hm; unfold rows0; omega
  · unfold rowsS at hm; unfold rows0; omega
theorem INV.kp (h : INV D) (q : KP D D') (t : ITx D → ITx D') : INV D' := by
  obtain ⟨t0, n, r, d, w, pl, lv, rt, ct, h⟩ := h.inc
  exact (h.kp q).inv (t t0)
theorem ITx.w0 (h : ITx D) {v : Int} : ITx (zw D 708 0 v) := h.kp (by rw [zw_off (by omega)]) (zw_off (by omega)) (zw_ne (Or.inr (by omega))) (zw_off (by omega))
theorem INV.w0 (h : INV D) {v : Int} : INV (zw D 708 0 v) := h.kp (KP.w0 (Or.inl rfl)) (fun t => t.w0)
end KEEP
