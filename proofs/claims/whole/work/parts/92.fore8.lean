/-! Foresight: workOut -/
/-- the state between two stretches -/
def FI (n : Nat) (r d w : Nat → Int) (pl : Nat → Nat) (a : Nat) (x : Nat → Rat) (fi la : Nat) (D0 D : DD) (now st : Nat) : Prop :=
  (fi ≤ now ∧ now ≤ la) ∧ (∀ c, (c < a ∨ a + 191 ≤ c) → (c < 391 ∨ 457 ≤ c) → (c < 530 ∨ 573 ≤ c) → D c = D0 c) ∧
  (∃ c v, FS D n (edf n pl r w x now) c v ∧ c ≤ ((200 ^ rl r fi now n : Nat) : Int) ∧ LB x c now (rl r fi now n) (28 * dl d now n + (now - fi))) ∧
  (∃ n' b e rt, PR D a n' b e rt ∧ Runs x fi now n' b e rt ∧ (n' = 0 → now = fi) ∧ n' ≤ st) ∧
  ((st = 0 ∧ now = fi) ∨ (1 ≤ st ∧ fi < now ∧ (st : Int) ≤ evs n r d fi now + 1 ∧ (now < la → Evt n r d now))) ∧
  (∀ j, j < n → edf n pl r w x now j = 0 → ∃ P Q, Fp D (a + 131 + 5 * j) P Q ∧ 0 < Q ∧ P < 2 ^ 130 ∧ Q < 2 ^ 130 ∧ En n r w pl x j ((P : Rat) / (Q : Rat))) ∧
  (∀ u : Nat, u < now → Wk n r w pl x u (D (a + 5) u)) ∧ ∀ u : Nat, now ≤ u → u < 200 → D (a + 5) u = -1
/-- kept from arithmetic -/
def Hid (p : Prop) : Prop := p
theorem hid {p : Prop} (h : p) : Hid p := h
theorem unhid {p : Prop} (h : Hid p) : p := h
section FORE8
variable {g : GG} {D D0 : DD} {n a : Nat} {r d w : Nat → Int} {pl : Nat → Nat} {x : Nat → Rat}
/-- behind a stretch -/
theorem FI.next (k : zk a = (0, 5, 0)) (f : JF n r d w pl) {fi la now st kk : Nat} {s : Rat} {c aim : Int} {D4 D5 : DD} (hk : 1 ≤ kk) (hla : now + kk ≤ la) (hla2 : la ≤ 200) (hs : 0 ≤ s) (hx : ∀ u, now ≤ u → u < now + kk → x u = s) (hr : ∀ j, j < n → (now : Int) < r j → ((now + kk : Nat) : Int) ≤ r j)
    (hfi : fi ≤ now) (F4 : ∀ c, (c < a ∨ a + 191 ≤ c) → (c < 391 ∨ 457 ≤ c) → (c < 530 ∨ 573 ≤ c) → D4 c = D0 c)
    (hst : (st = 0 ∧ now = fi) ∨ (1 ≤ st ∧ fi < now ∧ (st : Int) ≤ evs n r d fi now + 1 ∧ (now < la → Evt n r d now))) (hev : now + kk < la → Evt n r d ((now + kk : Nat) : Int))
    (hp : ∃ n' b e rt, PR D4 a n' b e rt ∧ Runs x fi (now + kk) n' b e rt ∧ 1 ≤ n' ∧ n' ≤ st + 1)
    (hdone : ∀ j, j < n → edf n pl r w x now j = 0 → ∃ P Q, Fp D4 (a + 131 + 5 * j) P Q ∧ 0 < Q ∧ P < 2 ^ 130 ∧ Q < 2 ^ 130 ∧ En n r w pl x j ((P : Rat) / (Q : Rat)))
    (hw1 : ∀ u : Nat, u < now → Wk n r w pl x u (D4 (a + 5) u)) (hw2 : ∀ u : Nat, now ≤ u → u < 200 → D4 (a + 5) u = -1)
    (hc : ∀ c', (c' = c ∨ (c' = c * aim ∧ (kk : Int) < aim)) → c' ≤ ((200 ^ rl r fi (now + kk : Nat) n : Nat) : Int) ∧ LB x c' (now + kk) (rl r fi (now + kk : Nat) n) (28 * dl d (now + kk : Nat) n + (now + kk - fi)))
    (h : WX n r pl a now kk s (edf n pl r w x now) (edf n pl r w x (now + kk)) c aim D4 D5) : FI n r d w pl a x fi la D0 D5 (now + kk) (st + 1) := by
  have pa := pr_at k
  have hn := f.1
  have hpl := f.2.2.2
  have wp : ∀ j, j < n → 0 < w j := fun j hj => (f.2.2.1 j hj).1
  obtain ⟨w1, ⟨c', v', fs, hc'⟩, w3, w4, w5, w6⟩ := h
  have hc2 := hc c' hc'
  refine ⟨⟨by omega, hla⟩, fun c c1 c2 c3 => ?_, ⟨c', v', fs, hc2.1, hc2.2⟩, ?_, Or.inr ⟨by omega, by omega, ?_, hev⟩, fun j hj z => ?_, fun u hu => ?_, fun u hu hu2 => ?_⟩
  · rw [w1 c (by omega) (by omega) (by omega) (by omega)]; exact F4 c c1 c2 c3
  · obtain ⟨n', b, e, rt, p, rn, n1, n2⟩ := hp
    refine ⟨n', b, e, rt, ⟨by rw [w1 a (by omega) (by omega) (by omega) (by omega)]; exact p.1, p.2.1, fun i hi => ?_⟩, rn, fun z => by omega, n2⟩
    have q := p.2.2 i hi
    have := p.2.1
    exact ⟨by rw [w1 (a + 1) (by omega) (by omega) (by omega) (by omega)]; exact q.1, by rw [w1 (a + 2) (by omega) (by omega) (by omega) (by omega)]; exact q.2.1, q.2.2.cells fun c c1 c2 => w1 c (by omega) (by omega) (by omega) (by omega)⟩
  · rcases hst with ⟨s1, s2⟩ | ⟨s1, s2, s3, s4⟩
    · have := evs_nn (n := n) (r := r) (d := d) (f := fi) (t := ((now + kk : Nat) : Int))
      omega
    · have := evs_more (n := n) (r := r) (d := d) (f := (fi : Int)) (s4 (by omega)) (by omega) (show (now : Int) < ((now + kk : Nat) : Int) by omega)
      omega
  · obtain ⟨q, hq, rfl⟩ := hpl.2.2 j hj
    have h12 := hpl.1 q hq
    have inv := edf_inv (r := r) (x := x) hpl wp now
    rcases Classical.em (edf n pl r w x now (pl q) = 0) with y | y
    · obtain ⟨P, Q, p1, p2⟩ := hdone _ hj y
      have cell := w4 q hq (fun z => by rw [y] at z; exact absurd z.2.1 Rat.lt_irrefl)
      exact ⟨P, Q, ⟨p1.1.of (cell _ (by omega) (by omega)) (cell _ (by omega) (by omega)), p1.2.of (cell _ (by omega) (by omega)) (cell _ (by omega) (by omega))⟩, p2⟩
    · have Rp : 0 < edf n pl r w x now (pl q) := by
        have := inv.1 _ hj
        grind
      have st := str_cum (x := x) (r := r) (k := kk) hpl wp hs hx hr kk (Nat.le_refl kk)
      have el : r (pl q) ≤ (now : Int) := Decidable.byContradiction fun e => by
        have := st.2 (pl q) hj e
        rw [z] at this
        exact y this.symm
      have sl := str_left (x := x) (r := r) (k := kk) hpl wp hs hx hr (Nat.le_refl kk) hq el
      have c1 := cum_t (R := edf n pl r w x now) (pl := pl) (el := fun j => r j ≤ (now : Int)) (p := q) el
      rw [z] at sl
      have le : cum (fun j => r j ≤ (now : Int)) (edf n pl r w x now) pl (q + 1) ≤ (kk : Rat) * s := by
        rw [c1] at sl ⊢
        grind
      obtain ⟨P, Q, p1, p2, p3, p4, p5⟩ := w3 q hq el Rp le
      have sp : 0 < s := by
        rcases Rat.le_iff_lt_or_eq.mp hs with y | y
        · exact y
        · exfalso
          rw [← y, Rat.mul_zero, c1] at le
          have := cum_nn (el := fun j => r j ≤ (now : Int)) (R := edf n pl r w x now) hpl inv.1 (show q ≤ n by omega)
          grind
      exact ⟨P, Q, p1, p2, p3, p4, by rw [p5]; exact str_end hpl wp sp hx hr (by omega) hq el Rp le⟩
  · rcases Nat.lt_or_ge u now with y | y
    · rw [w6 u (by omega)]; exact hw1 u y
    · obtain ⟨i, rfl⟩ : ∃ i, u = now + i := ⟨u - now, by omega⟩
      rcases Rat.le_iff_lt_or_eq.mp hs with z | z
      · obtain ⟨q, q1, q2, q3, q4⟩ := w5 z i (by omega)
        rw [q2]
        exact str_who hpl wp z hx hr (by omega) q1 q3 q4
      · rw [w6 _ (fun y => by rw [← z] at y; exact absurd y.1 Rat.lt_irrefl)]
        exact Or.inl ⟨by rw [hx _ (by omega) (by omega), z], hw2 _ (by omega) (by omega)⟩
  · rw [w6 u (by omega)]; exact hw2 u (by omega) hu2
theorem fo_loop (k : zk a = (0, 5, 0)) (f : JF n r d w pl) (h0 : JC D0 n r d w pl) (hx : Ah n r d w pl x) {fi la : Nat} (hfl : FL n r d fi la) (hn0 : 0 < n) {Q : Option VV → EE → DD → Prop}
    (hk : ∀ D st z0 z4 z5 z6 z7, FI n r d w pl a x fi la D0 D la st → Sg g M_Fo_workOut Q 176 [z0, vR 1, vR a, vR 391, z4, z5, z6, z7] [] D) :
    ∀ (m now st : Nat) (D : DD) (z7 : VV), la ≤ now + m → FI n r d w pl a x fi la D0 D now st → Sg g M_Fo_workOut Q 73 [vR 530, vR 1, vR a, vR 391, vI la, vI now, vI st, z7] [] D := by
  have pa := pr_at k
  have hn := f.1
  have hpl := f.2.2.2
  have wp : ∀ j, j < n → 0 < w j := fun j hj => (f.2.2.1 j hj).1
  have fb := hfl.bd f
  have fe : ∃ j, j < n ∧ r j = fi := by
    rcases hfl with h | h
    · omega
    · exact h.2.1
  have le_ : ∃ j, j < n ∧ d j = la := by
    rcases hfl with h | h
    · omega
    · exact h.2.2.2.1
  replace fe := hid fe
  replace le_ := hid le_
  have bb := BB130
  intro m
  induction m with
  | zero =>
    intro now st D z7 hm h
    obtain rfl : now = la := by have := h.1; omega
    exact s_Fo_workOut_73 k ⟨fun _ => hk D st _ _ _ _ _ h, fun _ => ⟨fun _ => hk D st _ _ _ _ _ h, fun q => by omega⟩⟩
  | succ m ih =>
    intro now st D z7 hm h
    rcases Nat.lt_or_ge now la with hlt | hge
    rotate_left
    · obtain rfl : now = la := by have := h.1; omega
      exact s_Fo_workOut_73 k ⟨fun _ => hk D st _ _ _ _ _ h, fun _ => ⟨fun _ => hk D st _ _ _ _ _ h, fun q => by omega⟩⟩
    obtain ⟨i1, i2, ⟨c, v, fs, cb, lb⟩, ⟨n', b, e, rt, pr, rn, nf, ns⟩, i5, i6, i7, i8⟩ := id h
    have ev := evs_22 (n := n) (r := r) (d := d) (f := fi) (t := la) hn (unhid fe) (unhid le_)
    have evm := evs_mono (n := n) (r := r) (d := d) (f := fi) (show (now : Int) ≤ la by omega)
    have st23 : st < 24 := by
      rcases i5 with z | z
      · omega
      · have := z.2.2.1; omega
    have c90 : 0 < c ∧ c < 2 ^ 90 := ⟨fs.2.1, fs.2.2.1⟩
    have hR := edf_bd (x := x) f now
    have dead : ∀ j, j < n → d j ≤ (now : Int) → edf n pl r w x now j = 0 := fun j hj z => hx.done hpl wp f.2.1 now (by omega) j hj z
    have jc : JC D n r d w pl := h0.of fun c c1 c2 => i2 c (by omega) (by omega) (by omega)
    refine s_Fo_workOut_73 k ⟨fun q => by omega, fun _ => ⟨fun q => by omega, fun _ => (foFind_ok f jc fs hR (by omega) dead).mono fun D1 r1 => ?_⟩⟩
    obtain ⟨F1, dv, Ds, hd, hE, cs⟩ := r1
    replace cs := hid cs
    have j1 : JC D1 n r d w pl := jc.fr F1 (by omega)
    refine s_Fo_workOut_94 k ((nextRelease_ok f j1 (b := now) (o := la) (by omega)).mono fun y D2 r2 => ?_)
    obtain ⟨rfl, ny⟩ := r2
    have fs1 : FS D2 n (edf n pl r w x now) c v := fs.fr hn F1 (by omega)
    have yb : (now : Int) < y ∧ y ≤ la ∧ Hid (y < la → ∃ j, j < n ∧ r j = y) ∧ ∀ j, j < n → (now : Int) < r j → y ≤ r j := by
      rcases ny with ⟨y1, y2⟩ | ⟨⟨j, hj, y1⟩, y2, y3⟩
      · exact ⟨by omega, by omega, fun z => absurd z (by omega), fun j hj z => by have := y2 j hj; omega⟩
      · have wj := f.2.1 j hj
        have := fb.2.2.1 j hj
        exact ⟨y2, by omega, fun _ => ⟨j, hj, y1⟩, y3⟩
    -- the rest of a stretch
    have go : ∀ (kk : Nat) (s : Rat) (aim aim' : Int), 1 ≤ kk → now + kk ≤ la → 0 ≤ s → (∀ u, now ≤ u → u < now + kk → x u = s) → (∀ j, j < n → (now : Int) < r j → ((now + kk : Nat) : Int) ≤ r j) → (now + kk < la → Evt n r d ((now + kk : Nat) : Int)) → Ds = now + aim → 0 ≤ aim ∧ aim ≤ 200 → (dv : Rat) / ((if aim ≤ 0 then 1 else c * aim : Int) : Rat) = s → (0 ≤ dv ∧ dv ≤ 12000 * c) →
        (∀ c', (c' = c ∨ (c' = c * aim' ∧ (kk : Int) < aim')) → c' ≤ ((200 ^ rl r fi (now + kk : Nat) n : Nat) : Int) ∧ LB x c' (now + kk) (rl r fi (now + kk : Nat) n) (28 * dl d (now + kk : Nat) n + (now + kk - fi))) →
        (∀ D4, JC D4 n r d w pl → FS D4 n (edf n pl r w x now) c v → Na D4 534 dv → D4 530 3 = Ds → CV g M_Fo_workOff [vR 530, vR 1, vR a, vI now, vI ((now + kk : Nat) : Int)] D4 (fun D' => WX n r pl a now kk s (edf n pl r w x now) (edf n pl r w x (now + kk)) c aim' D4 D')) →
        Sg g M_Fo_workOut Q 125 [vR 530, vR 1, vR a, vR 391, vI la, vI now, vI st, vI ((now + kk : Nat) : Int)] [] D2 := by
      intro kk s aim aim' g1 g2 g3 g4 g5 g6 g7 g8 g9 g10 g11 g12
      have m1 := pow90 (k := 12000) c90 (by omega)
      have m2 := pow90 (k := aim) c90 (by omega)
      have m2e : c * aim = aim * c := Int.mul_comm _ _
      have q0 : 0 < (if aim ≤ 0 then 1 else c * aim : Int) := by
        split
        · omega
        · exact Int.mul_pos c90.1 (by omega)
      have q1 : (if aim ≤ 0 then 1 else c * aim : Int) < BB ^ 30 := by
        split
        · omega
        · omega
      refine s_Fo_workOut_125 k ⟨by rw [hE, g7]; unfold R32; omega, ?_⟩
      rw [hE, show Ds - (now : Int) = aim by omega]
      refine (setRate_ok hd fs1.1 g8 c90).mono fun D3 r3 => s_Fo_workOut_136 k ((lower_ok zf_544 r3.1 q0 (by omega) q1).mono fun D4 r4 => s_Fo_workOut_144 k ?_)
      rw [g9] at r4
      have F4 : ∀ c, (c < 391 ∨ 457 ≤ c) → (c < 530 ∨ 573 ≤ c) → D4 c = D c := fun c c1 c2 => by rw [r4.2 c (by omega) (by omega), r3.2 c (by omega) (by omega), F1 c (by omega) (by omega)]
      have pr4 : PR D4 a n' b e rt := ⟨by rw [F4 a (by omega) (by omega)]; exact pr.1, pr.2.1, fun i hi => by
        have q := pr.2.2 i hi
        have := pr.2.1
        exact ⟨by rw [F4 (a + 1) (by omega) (by omega)]; exact q.1, by rw [F4 (a + 2) (by omega) (by omega)]; exact q.2.1, q.2.2.cells fun c c1 c2 => F4 c (by omega) (by omega)⟩⟩
      refine (append_ok k zf_544 (by omega) pr4 r4.1 rn nf (show now < now + kk by omega) (by omega) g4 (by omega)).mono fun D5 r5 => s_Fo_workOut_156 k ?_
      obtain ⟨n2, b2, e2, rt2, pr5, rn5, x1, x2, x3, _, F5, _⟩ := r5
      have F5' : ∀ c, (c < a ∨ a + 3 ≤ c) → (c < a + 11 ∨ a + 131 ≤ c) → D5 c = D4 c := fun c c1 c2 => F5 c (by omega) (by omega)
      have fr5 : ∀ c, 530 ≤ c → c < 573 → (c < 544 ∨ 549 ≤ c) → D5 c = D2 c := fun c c1 c2 c3 => by rw [F5' c (by omega) (by omega), r4.2 c (by omega) (by omega), r3.2 c (by omega) (by omega)]
      refine (g12 D5 (jc.of fun c c1 c2 => by rw [F5' c (by omega) (by omega), F4 c (by omega) (by omega)]) ?_ ?_ ?_).mono fun D6 r6 => s_Fo_workOut_166 k ⟨by unfold R32; omega, ?_⟩
      · refine ⟨fs1.1.of (fr5 532 (by omega) (by omega) (by omega)) (fr5 533 (by omega) (by omega) (by omega)), fs1.2.1, fs1.2.2.1, fun j hj => ⟨(fs1.2.2.2 j hj).1.of (fr5 _ (by omega) (by omega) (by omega)) (fr5 _ (by omega) (by omega) (by omega)), (fs1.2.2.2 j hj).2⟩⟩
      · exact hd.of (fr5 534 (by omega) (by omega) (by omega)) (fr5 535 (by omega) (by omega) (by omega))
      · rw [fr5 530 (by omega) (by omega) (by omega)]; exact hE
      · have dcell : ∀ c, a + 131 ≤ c → c < a + 191 → D5 c = D c := fun c c1 c2 => by rw [F5' c (by omega) (by omega), F4 c (by omega) (by omega)]
        have a5 : D5 (a + 5) = D (a + 5) := by rw [F5' (a + 5) (by omega) (by omega), F4 (a + 5) (by omega) (by omega)]
        refine ih (now + kk) (st + 1) D6 _ (by omega) (FI.next (D0 := D0) (D4 := D5) k f g1 g2 fb.2.1 g3 g4 g5 i1.1 (fun c c1 c2 c3 => by rw [F5' c (by omega) (by omega), F4 c c2 c3]; exact i2 c c1 c2 c3) i5 g6 ⟨n2, b2, e2, rt2, pr5, rn5, x1, by omega⟩ (fun j hj z => ?_) (fun u hu => by rw [a5]; exact i7 u hu) (fun u u1 u2 => by rw [a5]; exact i8 u u1 u2) g11 r6)
        obtain ⟨P, Q', p1, p2⟩ := i6 j hj z
        exact ⟨P, Q', ⟨p1.1.of (dcell _ (by omega) (by omega)) (dcell _ (by omega) (by omega)), p1.2.of (dcell _ (by omega) (by omega)) (dcell _ (by omega) (by omega))⟩, p2⟩
    refine s_Fo_workOut_102 k ((isZero_ok zf_534 hd).mono fun z D3 r3 => ?_)
    obtain ⟨rfl, rfl⟩ := r3
    obtain ⟨yn, rfl⟩ : ∃ yn : Nat, y = yn := ⟨y.toNat, by omega⟩
    have evy : yn < la → Evt n r d (yn : Int) := fun q => by
      obtain ⟨j, hj, e⟩ := unhid yb.2.2.1 (by omega)
      exact ⟨j, hj, Or.inl e⟩
    replace cs := unhid cs
    rcases cs with ⟨c1, c2, c3⟩ | ⟨E, s, c1, c2, c3, c4, c5, c6, c7, c8, c9⟩
    · -- nothing is open
      subst c1
      refine s_Fo_workOut_111 k ⟨fun _ => ?_, fun q => by rw [if_pos rfl] at q; omega⟩
      have hxz : ∀ i, i < yn - now → x (now + i) = 0 := hx.stretch (Ds := 0) hpl wp (by omega) c3 (Or.inl rfl) (fun j hj z => by have := yb.2.2.2 j hj z; omega) (by omega)
      have hxz' : ∀ u, now ≤ u → u < now + (yn - now) → x u = 0 := fun u u1 u2 => by
        obtain ⟨i, rfl⟩ : ∃ i, u = now + i := ⟨u - now, by omega⟩
        exact hxz i (by omega)
      have R0 : ∀ j, j < n → r j ≤ (now : Int) → edf n pl r w x now j = 0 := fun j hj z => by
        have kz := c3.2.1
        have wj := f.2.1 j hj
        rcases Int.lt_or_le now (d j) with y | y
        · have a1 := kz (d j).toNat (by omega) (by omega)
          rw [Rat.zero_mul] at a1
          have o := sp_one (P := fun i => r i ≤ (now : Int) ∧ d i ≤ (((d j).toNat : Nat) : Int)) (f := edf n pl r w x now) (n := n) hj ⟨z, by omega⟩ (fun i hi _ => (hR i hi).1)
          have o2 : edf n pl r w x now j ≤ kn n r d now (edf n pl r w x now) (d j).toNat := o
          have := (hR j hj).1
          grind
        · exact dead j hj y
      have := go (yn - now) 0 0 1 (by omega) (by omega) Rat.le_refl hxz' (fun j hj z => by have := yb.2.2.2 j hj z; omega) (fun q => by rw [show now + (yn - now) = yn by omega] at q ⊢; exact evy q) (by omega) (by omega) (by rw [if_pos (by omega)]; rw [Rat.div_def, show (((0 : Int)) : Rat) = 0 from rfl, Rat.zero_mul]) (by omega) (fun c' hc' => ?_) (fun D4 q1 q2 q3 q4 => ?_)
      · rwa [show now + (yn - now) = yn by omega] at this
      · have e : c' = c := by
          rcases hc' with z | z
          · exact z
          · rw [z.1, Int.mul_one]
        subst e
        have rm := rl_mono (r := r) (fi := fi) (n := n) (show (now : Int) ≤ ((now + (yn - now) : Nat) : Int) by omega)
        have dm := dl_mono (d := d) (n := n) (show (now : Int) ≤ ((now + (yn - now) : Nat) : Int) by omega)
        refine ⟨?_, (lb.same hxz').mono rm (by omega)⟩
        have pm := Nat.pow_le_pow_right (show 0 < 200 by decide) rm
        omega
      · refine foWorkOff_0 k f q1 q2 (by omega) q3 (by rw [q4]; omega) (fun j hj => edf_idle hpl wp (yn - now) hxz' j hj) R0
    · -- the densest
      refine s_Fo_workOut_111 k ⟨fun q => by rw [if_neg (by omega)] at q; omega, fun _ => ?_⟩
      have hEla : E ≤ la := by
        obtain ⟨j, hj, e⟩ := c4
        have := (fb.2.2.1 j hj).2
        omega
      obtain ⟨kk, hkk⟩ : ∃ kk, min yn E = now + kk := ⟨min yn E - now, by omega⟩
      have hr' : ∀ j, j < n → (now : Int) < r j → ((now + kk : Nat) : Int) ≤ r j := fun j hj z => by have := yb.2.2.2 j hj z; omega
      have hxs : ∀ i, i < kk → x (now + i) = s := hx.stretch (Ds := E) hpl wp c3 c7 (Or.inr ⟨by omega, c8⟩) hr' (by omega)
      have hxs' : ∀ u, now ≤ u → u < now + kk → x u = s := fun u u1 u2 => by
        obtain ⟨i, rfl⟩ : ∃ i, u = now + i := ⟨u - now, by omega⟩
        exact hxs i (by omega)
      obtain ⟨aim, haim⟩ : ∃ aim : Nat, E = now + aim := ⟨E - now, by omega⟩
      have ea : (E : Rat) - (now : Rat) = ((aim : Int) : Rat) := by
        rw [haim, Rat.natCast_add, show ((aim : Int) : Rat) = (aim : Rat) from rfl]; grind
      rw [ea] at c8
      have hdv : (dv : Rat) = s * ((c * (aim : Int) : Int) : Rat) := by
        rw [c9, c8, Rat.intCast_mul]; grind
      have Kp : 0 < c * (aim : Int) := Int.mul_pos c90.1 (by omega)
      have Kq : (0 : Rat) < ((c * (aim : Int) : Int) : Rat) := Rat.intCast_pos.mpr Kp
      have hsd : (dv : Rat) / ((c * (aim : Int) : Int) : Rat) = s := by
        rw [hdv, Rat.mul_div_cancel]
        intro z; rw [z] at Kq; exact absurd Kq Rat.lt_irrefl
      have kb := kn_bd (d := d) f (t := now) hR (D := (E : Int))
      have dvb := int_bd c9 kb.1 kb.2 c90.1
      have den_s : ((s.den : Nat) : Int) ∣ c * (aim : Int) := by rw [← hsd]; exact den_dvd Kp
      have hrl11 := rl_11 (r := r) (t := ((now + kk : Nat) : Int)) hn (unhid fe)
      have p85 := p200 hrl11
      have e85 : (((2 : Nat) ^ 85 : Nat) : Int) = (2 : Int) ^ 85 := by norm_cast
      -- a broken stretch ends at a release
      have short : (kk : Int) < aim → rl r fi now n + 1 ≤ rl r fi (now + kk : Nat) n := fun q => by
        have yl : yn < la := by omega
        obtain ⟨j, hj, e⟩ := unhid yb.2.2.1 (by omega)
        exact rl_more (by omega) (by omega) ⟨j, hj, by omega⟩
      have ca : (kk : Int) < aim → c * (aim : Int) ≤ ((200 ^ rl r fi (now + kk : Nat) n : Nat) : Int) := fun q => by
        have sh := short q
        have a1 : c * (aim : Int) ≤ ((200 ^ rl r fi now n : Nat) : Int) * 200 := Int.mul_le_mul cb (by omega) (by omega) (by omega)
        have a2 := Nat.pow_le_pow_right (show 0 < 200 by decide) sh
        rw [Nat.pow_succ] at a2
        omega
      have := go kk s aim aim (by omega) (by omega) (Rat.le_of_lt c6) hxs' hr' (fun q => ?_) (by omega) (by omega) (by rw [if_neg (by omega)]; exact hsd) dvb (fun c' hc' => ?_) (fun D4 q1 q2 q3 q4 => ?_)
      · rw [hE, c1, show min (yn : Int) (E : Int) = ((now + kk : Nat) : Int) by omega]
        exact this
      · rcases Nat.lt_or_ge yn E with z | z
        · rw [show now + kk = yn by omega] at q ⊢
          exact evy q
        · obtain ⟨j, hj, e⟩ := c4
          exact ⟨j, hj, Or.inr (by omega)⟩
      · have rm := rl_mono (r := r) (fi := fi) (n := n) (show (now : Int) ≤ ((now + kk : Nat) : Int) by omega)
        have pm := Nat.pow_le_pow_right (show 0 < 200 by decide) rm
        have dm := dl_mono (d := d) (n := n) (show (now : Int) ≤ ((now + kk : Nat) : Int) by omega)
        have dq : ∀ i, now ≤ i → i < now + kk → ((x i).den : Int) ∣ c * (aim : Int) := fun i i1 i2 => by rw [hxs' i i1 i2]; exact den_s
        rcases (show (kk : Int) < aim ∨ kk = aim by omega) with q | q
        · refine ⟨?_, (lb.short (a := aim) (by omega) (hc'.imp id fun z => z.1) dq).mono (short q) (by omega)⟩
          rcases hc' with z | z
          · rw [z]; omega
          · rw [z.1]; exact ca q
        · have e : c' = c := by
            rcases hc' with z | z
            · exact z
            · omega
          subst e
          have dmo : dl d now n + 1 ≤ dl d (now + kk : Nat) n := by
            obtain ⟨j, hj, e⟩ := c4
            exact dl_more (by omega) ⟨j, hj, by omega⟩
          exact ⟨by omega, (lb.whole (a := aim) (by omega) dq).mono rm (by omega)⟩
      · obtain ⟨m', hm', hpre⟩ := pl_pre hpl (E : Int)
        have ek : kn n r d now (edf n pl r w x now) E = cum (fun j => r j ≤ (now : Int)) (edf n pl r w x now) pl m' := (cum_pre hpl hm' hpre).symm
        have em : cum (fun j => r j ≤ (now : Int)) (edf n pl r w x now) pl m' = s * ((aim : Int) : Rat) := by rw [← ek]; exact c8
        have kr : ((kk : Nat) : Rat) ≤ ((aim : Int) : Rat) := Rat.natCast_le_natCast.mpr (by omega)
        refine foWorkOff_ok k f q1 q2 hR c6 (by omega) (by omega) dead hdv ⟨c5, dvb.2⟩ q3 (by rw [q4]; omega) (fun q hq el => str_left hpl wp (Rat.le_of_lt c6) hxs' hr' (Nat.le_refl kk) hq el) (fun j hj el => (str_cum (x := x) (r := r) (k := kk) hpl wp (Rat.le_of_lt c6) hxs' hr' kk (Nat.le_refl kk)).2 j hj el) (fun q => ?_) ?_ (fun q => ⟨m', hm', ?_⟩)
        · have := ca q
          have e90 : (2 : Int) ^ 85 < 2 ^ 90 := by decide
          omega
        · have mo := cum_mono (el := fun j => r j ≤ (now : Int)) (R := edf n pl r w x now) hpl (fun j hj => (hR j hj).1) hm' (Nat.le_refl n)
          rw [em] at mo
          have := Rat.mul_le_mul_of_nonneg_left kr (Rat.le_of_lt c6)
          grind
        · rw [em, show (kk : Rat) = ((aim : Int) : Rat) by rw [← q]; rfl]
          exact Rat.mul_comm _ _
end FORE8
