/-! the model's AHEAD: its loop -/
theorem pow23 {e : Nat} (h : e ≤ 24) : ((200 ^ e : Nat) : Int) < 2 ^ 190 := by
  have : ∀ k : Fin 25, ((200 ^ k.val : Nat) : Int) < 2 ^ 190 := by decide +kernel
  exact this ⟨e, by omega⟩
section MAH7
variable {g : GG} {D D0 : DD} {n : Nat} {r d w : Nat → Int} {pl : Nat → Nat} {x : Nat → Rat}
theorem ma_loop (f : JF n r d w pl) (h0 : JM D0 n r d w) (hx : Ah n r d w pl x) {fi la : Nat} (hfl : FL n r d fi la) (hn0 : 0 < n) {Q : Option VV → EE → DD → Prop}
    (hk : ∀ D st z1 z2 z3 z4, MAI n r d w pl x fi la D0 D la st → CV g M_Mo_set [vR 708, vI 224, vL 0] D (fun D' => Sg g M_Mo_ahead Q 255 [vR 708, z1, z2, z3, z4] [] D')) :
    ∀ (m now st : Nat) (D : DD) (z3 z4 : VV), la ≤ now + m → MAI n r d w pl x fi la D0 D now st → Sg g M_Mo_ahead Q 87 [vR 708, vI la, vI now, z3, z4] [] D := by
  have hn := f.1
  have hpl := f.2.2.2
  have wp : ∀ j, j < n → 0 < w j := fun j hj => (f.2.2.1 j hj).1
  have fb := hfl.bd f
  have fe : ∃ j, j < n ∧ r j = fi := by
    rcases hfl with h | h
    · omega
    · exact h.2.1
  have le_ : ∃ j, j < n ∧ d j = la := by
    rcases hfl with h | h
    · omega
    · exact h.2.2.2.1
  replace fe := hid fe
  replace le_ := hid le_
  have mb := MB200
  intro m
  induction m with
  | zero =>
    intro now st D z3 z4 hm h
    obtain rfl : now = la := by have := h.1; omega
    exact s_Mo_ahead_87 ⟨fun _ => hk D st _ _ _ _ h, fun q => by omega⟩
  | succ m ih =>
    intro now st D z3 z4 hm h
    rcases Nat.lt_or_ge now la with hlt | hge
    rotate_left
    · obtain rfl : now = la := by have := h.1; omega
      exact s_Mo_ahead_87 ⟨fun _ => hk D st _ _ _ _ h, fun q => by omega⟩
    obtain ⟨i1, i2, ⟨c, v, mfs, cb⟩, ⟨n', b, e, rt, mp, rn, nf, ns⟩, i5, i6, i7, i8⟩ := id h
    have ev := evs_22 (n := n) (r := r) (d := d) (f := fi) (t := la) hn (unhid fe) (unhid le_)
    have evm := evs_mono (n := n) (r := r) (d := d) (f := fi) (show (now : Int) ≤ la by omega)
    have st23 : st < 24 := by
      rcases i5 with z | z
      · omega
      · have := z.2.2.1; omega
    have c200 : 0 < c ∧ c < 2 ^ 200 := ⟨mfs.2.1, mfs.2.2.1⟩
    have hR := edf_bd (x := x) f now
    have dead : ∀ j, j < n → d j ≤ (now : Int) → edf n pl r w x now j = 0 := fun j hj z => hx.done hpl wp f.2.1 now (by omega) j hj z
    have jm : JM D n r d w := h0.ca i2
    have pst : ((200 ^ (st + 1) : Nat) : Int) = ((200 ^ st : Nat) : Int) * 200 := by rw [Nat.pow_succ, Int.natCast_mul]; rfl
    have p190 := pow23 (e := st + 1) (by omega)
    have e190 : (2 : Int) ^ 190 < 2 ^ 200 := by decide
    refine s_Mo_ahead_87 ⟨fun q => by omega, fun _ => (nextEvent_ok f jm (t := now) (by omega)).mono fun y D1 r1 => ?_⟩
    obtain ⟨rfl, ne1, ne2, ne3⟩ := r1
    replace ne2 := hid ne2
    have yb : y ≤ la := by
      obtain ⟨j, hj, e⟩ := unhid le_
      have := (ne3 j hj).2 (by omega)
      omega
    obtain ⟨kk, rfl⟩ : ∃ kk : Nat, y = ((now + kk : Nat) : Int) := ⟨(y - now).toNat, by omega⟩
    have hev : Hid (now + kk < la → Evt n r d ((now + kk : Nat) : Int)) := fun _ => by
      rcases unhid ne2 with z | z
      · omega
      · exact z
    have hr : ∀ j, j < n → (now : Int) < r j → ((now + kk : Nat) : Int) ≤ r j := fun j hj z => (ne3 j hj).1 z
    refine s_Mo_ahead_97 ((findBest_ok f jm hR mfs dead (by omega)).mono fun len D2 r2 => ?_)
    obtain ⟨F2, bv, hb, cs⟩ := r2
    replace cs := hid cs
    have C2 : CA D1 D2 := CA.fm F2 fun m hm => by unfold rowsP at hm; omega
    have mp2 : MPR D2 728 729 24 26 n' b e rt := ⟨by rw [F2.1 708 (by omega) (by omega)]; exact mp.1, mp.2.1, fun i hi => by
      have a := mp.2.2 i hi
      have := mp.2.1
      exact ⟨by rw [F2.1 728 (by omega) (by omega)]; exact a.1, by rw [F2.1 729 (by omega) (by omega)]; exact a.2.1, a.2.2.fm F2 (by omega)⟩⟩
    have jm2 : JM D2 n r d w := jm.ca C2
    have next := fun D z3 z4 (h : MAI n r d w pl x fi la D0 D (now + kk) (st + 1)) => ih (now + kk) (st + 1) D z3 z4 (by omega) h
    replace cs := unhid cs
    rcases cs with ⟨c1, c2, c3⟩ | ⟨E, s, c1, c2, c3, c4, c5, c6, c7, c8, c9⟩
    · -- nothing is open
      refine s_Mo_ahead_103 ⟨fun _ => (mset_ok (n := 222) (by omega) (x := 0) (by omega)).mono fun D3 r3 => s_Mo_ahead_158 ((mset_ok (n := 223) (by omega) (x := 1) (by omega)).mono fun D4 r4 => ?_), fun q => by omega⟩
      have hxz : ∀ i, i < kk → x (now + i) = 0 := hx.stretch (Ds := 0) hpl wp (by omega) c3 (Or.inl rfl) hr (by omega)
      have hxz' : ∀ u, now ≤ u → u < now + kk → x u = 0 := fun u u1 u2 => by
        obtain ⟨i, rfl⟩ : ∃ i, u = now + i := ⟨u - now, by omega⟩
        exact hxz i (by omega)
      have ei := edf_idle (r := r) hpl wp kk hxz'
      have F4 : FM 222 224 222 224 D2 D4 := (FM.f1 r3.2 (by omega)).tr (FM.f1 r4.2 (by omega))
      have C4 : CA D2 D4 := CA.fm F4 fun m hm => by unfold rowsP at hm; omega
      have mfs4 := (mfs.rf hn F2.rows (by omega)).rf hn F4.rows (by omega)
      refine ma_tail f (c := c) (v := v) (s := 0) (p := 0) (q := 1) (by omega) (by omega) fb.2.1 i1.1 hxz' ((i2.tr C2).tr C4) ⟨mfs4.1, mfs4.2.1, mfs4.2.2.1, fun j hj => ⟨(mfs4.2.2.2 j hj).1, by rw [ei j hj]; exact (mfs4.2.2.2 j hj).2⟩⟩ (by omega) (n' := n') (b := b) (e := e) (rt := rt) ⟨by rw [F4.1 708 (by omega) (by omega)]; exact mp2.1, mp2.2.1, fun i hi => ?_⟩ rn nf ns st23 i5 hlt hev (fun j hj z => ?_) (fun u hu => ?_) (fun u u1 u2 => ?_) ⟨r3.1.f1 r4.2 (by omega), r4.1⟩ (by omega) (by decide +kernel) (by rw [Rat.div_def, show (((0 : Int)) : Rat) = 0 from rfl, Rat.zero_mul]) next _
      · have a := mp2.2.2 i hi
        have := mp2.2.1
        exact ⟨by rw [F4.1 728 (by omega) (by omega)]; exact a.1, by rw [F4.1 729 (by omega) (by omega)]; exact a.2.1, a.2.2.fm F4 (by omega)⟩
      · rw [ei j hj] at z
        obtain ⟨y, y1, y2⟩ := i6 j hj z
        exact ⟨y, y1, (y2.fm F2 (by omega)).fm F4 (by omega)⟩
      · rw [F4.1 730 (by omega) (by omega), F2.1 730 (by omega) (by omega)]
        rcases Nat.lt_or_ge u now with z | z
        · exact i7 u z
        · exact Or.inl ⟨hxz' u z hu, i8 u z (by omega)⟩
      · rw [F4.1 730 (by omega) (by omega), F2.1 730 (by omega) (by omega)]; exact i8 u (by omega) u2
    · -- the densest
      have hEk : now + kk ≤ E := by
        obtain ⟨j, hj, e⟩ := unhid c4
        have := (ne3 j hj).2 (by omega)
        omega
      have hxs : ∀ i, i < kk → x (now + i) = s := hx.stretch (Ds := E) hpl wp c3 c7 (Or.inr ⟨hEk, c8⟩) hr (by omega)
      have hxs' : ∀ u, now ≤ u → u < now + kk → x u = s := fun u u1 u2 => by
        obtain ⟨i, rfl⟩ : ∃ i, u = now + i := ⟨u - now, by omega⟩
        exact hxs i (by omega)
      have el : (E : Rat) - (now : Rat) = (len : Rat) := by rw [c1, Rat.intCast_sub]; rfl
      rw [el] at c8
      have hl : 0 < len ∧ len ≤ 200 := by omega
      have hbv : (bv : Rat) = s * ((c * len : Int) : Rat) := by rw [c9, c8, Rat.intCast_mul]; grind
      have Kp : 0 < c * len := Int.mul_pos c200.1 hl.1
      have Kq : (0 : Rat) < ((c * len : Int) : Rat) := Rat.intCast_pos.mpr Kp
      have hsd : (bv : Rat) / ((c * len : Int) : Rat) = s := by
        rw [hbv, Rat.mul_div_cancel]
        intro z; rw [z] at Kq; exact absurd Kq Rat.lt_irrefl
      have kb := kn_bd (d := d) f (t := now) hR (D := (E : Int))
      have bvb := int_bd c9 kb.1 kb.2 c200.1
      have cl : c * len ≤ ((200 ^ (st + 1) : Nat) : Int) := by
        rw [pst]
        exact Int.mul_le_mul cb hl.2 (by omega) (by omega)
      obtain ⟨m', hm', hpre⟩ := pl_pre hpl (E : Int)
      have ek : kn n r d now (edf n pl r w x now) E = cum (fun j => r j ≤ (now : Int)) (edf n pl r w x now) pl m' := (cum_pre hpl hm' hpre).symm
      have mo := cum_mono (el := fun j => r j ≤ (now : Int)) (R := edf n pl r w x now) hpl (fun j hj => (hR j hj).1) hm' (Nat.le_refl n)
      have kr : ((kk : Nat) : Rat) ≤ (len : Rat) := Rat.intCast_le_intCast.mpr (show ((kk : Nat) : Int) ≤ len by omega)
      have hfull : (kk : Rat) * s ≤ cum (fun j => r j ≤ (now : Int)) (edf n pl r w x now) pl n := by
        rw [← ek, c8] at mo
        have := Rat.mul_le_mul_of_nonneg_left kr (Rat.le_of_lt c6)
        grind
      refine s_Mo_ahead_103 ⟨fun q => by omega, fun _ => (mcopy_ok (a := 243) (b := 222) (by omega) (by omega) (by omega) hb).mono fun D3 r3 => s_Mo_ahead_120 ?_⟩
      have mfs2 := mfs.rf hn F2.rows (by omega)
      refine (mcopy_ok (a := 242) (b := 223) (by omega) (by omega) (by omega) (mfs2.1.f1 r3.2 (by omega))).mono fun D4 r4 => s_Mo_ahead_130 ((mtimes_ok (n := 223) (by omega) r4.1 (by omega) (by omega)).mono fun D5 r5 => s_Mo_ahead_139 ?_)
      have F5 : FM 222 224 222 224 D2 D5 := ((FM.f1 r3.2 (by omega)).tr (FM.f1 r4.2 (by omega))).tr (FM.f1 r5.2 (by omega))
      have C5 : CA D2 D5 := CA.fm F5 fun m hm => by unfold rowsP at hm; omega
      have mfs5 := mfs2.rf hn F5.rows (by omega)
      refine (workAhead_ok (R' := edf n pl r w x (now + kk)) f (jm2.ca C5) hR mfs5 dead (by omega) (by omega) hl c6 hbv (hb.fm F5 (by omega)) ⟨c5, bvb.2⟩ (by omega) (fun q hq el => str_left hpl wp (Rat.le_of_lt c6) hxs' hr (Nat.le_refl kk) hq el) (fun j hj el => (str_cum (x := x) (r := r) (k := kk) hpl wp (Rat.le_of_lt c6) hxs' hr kk (Nat.le_refl kk)).2 j hj el) hfull).mono fun D6 r6 => s_Mo_ahead_147 ?_
      obtain ⟨D5', g1, g2, g3, g4, w1, w2, ⟨v', mfs6⟩, w4, w5⟩ := r6
      have C6 : CA D5 D6 := by
        refine CA.tr (D' := D5') ⟨fun c c1 c2 c3 c4 => g1 c c2 c3 (by omega), fun k _ => by rw [g1 708 (by omega) (by omega) (by omega)], g2.rk fun m hm => by unfold rowsP at hm; omega⟩ ⟨fun c _ c2 c3 _ => w1 c c2 c3, fun k _ => by rw [w1 708 (by omega) (by omega)], w2.rk fun m hm => by unfold rowsP at hm; omega⟩
      have low : ∀ (i : Nat) (y : Rat), i < 24 → Mq D5 (24 + (i : Int)) y → Mq D6 (24 + (i : Int)) y := fun i y hi h => (h.rw g2 (by omega)).rw w2 (by omega)
      have cell6 : ∀ c, c ≠ 709 → c ≠ 710 → c ≠ 730 → D6 c = D2 c := fun c c1 c2 c3 => by rw [w1 c c1 c2, g1 c c1 c2 c3, F5.1 c c1 c2]
      have hm6 : Mp D6 111 bv (c * len) := by
        have a : Mp D5 111 bv (c * len) := ⟨(r3.1.f1 r4.2 (by omega)).f1 r5.2 (by omega), r5.1⟩
        exact ⟨(a.1.rw g2 (by omega)).rw w2 (by omega), (a.2.rw g2 (by omega)).rw w2 (by omega)⟩
      have inv := edf_inv (r := r) (x := x) hpl wp now
      refine ma_tail f (c := c * len) (v := v') (s := s) (p := bv) (q := c * len) (by omega) (by omega) fb.2.1 i1.1 hxs' (((i2.tr C2).tr C5).tr C6) mfs6 cl (n' := n') (b := b) (e := e) (rt := rt) ⟨by rw [cell6 708 (by omega) (by omega) (by omega)]; exact mp2.1, mp2.2.1, fun i hi => ?_⟩ rn nf ns st23 i5 hlt hev (fun j hj z => ?_) (fun u hu => ?_) (fun u u1 u2 => ?_) hm6 Kp (by omega) hsd next _
      · have a := mp2.2.2 i hi
        have := mp2.2.1
        exact ⟨by rw [cell6 728 (by omega) (by omega) (by omega)]; exact a.1, by rw [cell6 729 (by omega) (by omega) (by omega)]; exact a.2.1, low i _ (by omega) (a.2.2.fm F5 (by omega))⟩
      · obtain ⟨q, hq, rfl⟩ := hpl.2.2 j hj
        have h12 := hpl.1 q hq
        rcases Classical.em (edf n pl r w x now (pl q) = 0) with y | y
        · obtain ⟨y', y1, y2⟩ := i6 _ hj y
          have k := w5 q hq (fun z => by rw [y] at z; exact absurd z.2.1 Rat.lt_irrefl)
          exact ⟨y', y1, k.mq ((((y2.fm F2 (by omega)).fm F5 (by omega))).rw g2 (by omega))⟩
        · have Rp : 0 < edf n pl r w x now (pl q) := by
            have := inv.1 _ hj
            grind
          have st' := str_cum (x := x) (r := r) (k := kk) hpl wp (Rat.le_of_lt c6) hxs' hr kk (Nat.le_refl kk)
          have el' : r (pl q) ≤ (now : Int) := Decidable.byContradiction fun e => by
            have := st'.2 (pl q) hj e
            rw [z] at this
            exact y this.symm
          have sl := str_left (x := x) (r := r) (k := kk) hpl wp (Rat.le_of_lt c6) hxs' hr (Nat.le_refl kk) hq el'
          have ct := cum_t (R := edf n pl r w x now) (pl := pl) (el := fun j => r j ≤ (now : Int)) (p := q) el'
          rw [z] at sl
          have le : cum (fun j => r j ≤ (now : Int)) (edf n pl r w x now) pl (q + 1) ≤ (kk : Rat) * s := by
            rw [ct] at sl ⊢
            grind
          exact ⟨_, str_end hpl wp c6 hxs' hr (by omega) hq el' Rp le, w4 q hq el' Rp le⟩
      · rw [w1 730 (by omega) (by omega)]
        rcases Nat.lt_or_ge u now with z | z
        · rw [g4 u (by omega), F5.1 730 (by omega) (by omega), F2.1 730 (by omega) (by omega)]; exact i7 u z
        · obtain ⟨i, rfl⟩ : ∃ i, u = now + i := ⟨u - now, by omega⟩
          obtain ⟨p, p1, p2, p3, p4⟩ := g3 i (by omega)
          rw [p2]
          exact str_who hpl wp c6 hxs' hr (by omega) p1 p3 p4
      · rw [w1 730 (by omega) (by omega), g4 u (by omega), F5.1 730 (by omega) (by omega), F2.1 730 (by omega) (by omega)]; exact i8 u (by omega) u2
end MAH7
