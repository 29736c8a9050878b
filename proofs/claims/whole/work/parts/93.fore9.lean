/-! Foresight: workOut and SpeedKernel.ahead -/
section FORE9
variable {g : GG} {D D0 : DD} {n a : Nat} {r d w : Nat → Int} {pl : Nat → Nat} {x : Nat → Rat}
theorem fo_left (k : zk a = (0, 5, 0)) (f : JF n r d w pl) (h0 : JC D0 n r d w pl) {Q : Option VV → EE → DD → Prop}
    (hk : ∀ D z4, FR 549 573 549 573 D0 D → (∀ j : Nat, j < n → Na D (549 + 2 * j) (w j)) → CI g M_Jo_lastDeadline [vR 1] D (fun v2 D' => Sg g M_Fo_workOut Q 52 [vR 530, vR 1, vR a, vR 391, z4, vU, vU, vU] [vI v2] D')) :
    ∀ (m j : Nat) (D : DD) (z5 z6 z7 : VV), j + m = n → FR 549 573 549 573 D0 D → (∀ i : Nat, i < j → Na D (549 + 2 * i) (w i)) → Sg g M_Fo_workOut Q 15 [vR 530, vR 1, vR a, vR 391, vI j, z5, z6, z7] [] D := by
  have hn := f.1
  intro m
  induction m with
  | zero =>
    intro j D z5 z6 z7 hm F hI
    have e : D 1 0 = n := by rw [F 1 (by omega) (by omega)]; exact h0.1
    exact s_Fo_workOut_15 k ⟨fun _ => hk D _ F fun i hi => hI i (by omega), fun q => by omega⟩
  | succ m ih =>
    intro j D z5 z6 z7 hm F hI
    have jc := h0.fr F (by omega)
    have e := jc.1
    have e4 := (jc.2.1 j (by omega)).2.2
    have wj := f.2.2.1 j (by omega)
    refine s_Fo_workOut_15 k ⟨fun q => by omega, fun _ => ⟨⟨by omega, by omega⟩, ?_⟩⟩
    rw [e4, Int.toNat_natCast]
    refine (setSmall_ok (zk_left (by omega)) (by omega)).mono fun D2 r2 => s_Fo_workOut_42 k ⟨by unfold R32; omega, ih (j + 1) D2 _ _ _ (by omega) (F.tr (FR.fa r2.2 (by omega))) fun i hi => ?_⟩
    rcases (show i = j ∨ i < j by omega) with y | y
    · rw [y]; exact r2.1
    · exact (hI i y).far r2.2 (by omega)
theorem fo_lower (k : zk a = (0, 5, 0)) (f : JF n r d w pl) (h0 : JC D0 n r d w pl) {P : DD → Prop} (hd : ∀ j, j < n → ∃ P Q, Fp D0 (a + 131 + 5 * j) P Q ∧ 0 < Q ∧ P < 2 ^ 130 ∧ Q < 2 ^ 130 ∧ En n r w pl x j ((P : Rat) / (Q : Rat)))
    (hk : ∀ D, FR 391 457 (a + 131) (a + 191) D0 D → (∀ j, j < n → ∃ y, En n r w pl x j y ∧ Fq D (a + 131 + 5 * j) y ∧ y.num < 2 ^ 475 ∧ (y.den : Int) < 2 ^ 475) → P D) :
    ∀ (m j : Nat) (D : DD) (z0 z4 z5 z7 : VV), j + m = n → FR 391 457 (a + 131) (a + 191) D0 D → (∀ i, i < n → (i < j → ∃ y, En n r w pl x i y ∧ Fq D (a + 131 + 5 * i) y ∧ y.num < 2 ^ 475 ∧ (y.den : Int) < 2 ^ 475) ∧ (j ≤ i → ∀ c, a + 131 + 5 * i ≤ c → c < a + 136 + 5 * i → D c = D0 c)) →
      Sg g M_Fo_workOut (rV P) 179 [z0, vR 1, vR a, vR 391, z4, z5, vI j, z7] [] D := by
  have hn := f.1
  have pa := pr_at k
  have bb := BB130
  intro m
  induction m with
  | zero =>
    intro j D z0 z4 z5 z7 hm F hI
    have e : D 1 0 = n := by rw [F 1 (by omega) (by omega)]; exact h0.1
    exact s_Fo_workOut_179 k ⟨fun _ => retV (hk D F fun i hi => (hI i hi).1 (by omega)), fun q => by omega⟩
  | succ m ih =>
    intro j D z0 z4 z5 z7 hm F hI
    have jc := h0.fr F (by omega)
    have e := jc.1
    have hj : j < n := by omega
    obtain ⟨P', Q', p1, p2, p3, p4, p5⟩ := hd j hj
    have cell := (hI j hj).2 (Nat.le_refl j)
    have p1' : Fp D (a + 131 + 5 * j) P' Q' := ⟨p1.1.of (cell _ (by omega) (by omega)) (cell _ (by omega) (by omega)), p1.2.of (cell _ (by omega) (by omega)) (cell _ (by omega) (by omega))⟩
    refine s_Fo_workOut_179 k ⟨fun q => by omega, fun _ => ⟨by omega, ?_⟩⟩
    rw [Int.toNat_natCast]
    refine (lower_ok (zk_done k (by omega)) p1' p2 (by omega) (by omega)).mono fun D2 r2 => s_Fo_workOut_199 k ⟨by unfold R32; omega, ih (j + 1) D2 _ _ _ _ (by omega) (F.tr (r2.2.mono fun c _ _ => by omega)) fun i hi => ?_⟩
    have geo : ∀ c, a + 131 + 5 * i ≤ c → c < a + 136 + 5 * i → i ≠ j → D2 c = D c := fun c c1 c2 c3 => r2.2 c (by omega) (by omega)
    have A := hI i hi
    refine ⟨fun z => ?_, fun z c c1 c2 => by rw [geo c c1 c2 (by omega)]; exact A.2 (by omega) c c1 c2⟩
    rcases (show i = j ∨ i ≠ j by omega) with y | y
    · subst y
      have ll := low_le p1.1.nn p2
      have b : (2 : Int) ^ 130 < 2 ^ 475 := by decide
      exact ⟨_, p5, r2.1, by omega, by omega⟩
    · obtain ⟨v, v1, v2, v3⟩ := A.1 (by omega)
      exact ⟨v, v1, v2.cells fun c c1 c2 => geo c c1 (by omega) y, v3⟩
theorem foWorkOut_ok (k : zk a = (0, 5, 0)) (f : JF n r d w pl) (h0 : JC D n r d w pl) (hx : Ah n r d w pl x) :
    CV g M_Fo_workOut [vR 530, vR 1, vR a, vR 391] D (fun D' => (∃ L, SZ x 200 L) ∧ (∃ fi la n' b e rt, FL n r d fi la ∧ PR D' a n' b e rt ∧ Runs x fi la n' b e rt ∧ ∀ t, t < 200 → t < fi ∨ la ≤ t → x t = 0) ∧
      (∀ j, j < n → ∃ y, En n r w pl x j y ∧ Fq D' (a + 131 + 5 * j) y ∧ y.num < 2 ^ 475 ∧ (y.den : Int) < 2 ^ 475) ∧ (∀ u : Nat, u < 200 → Wk n r w pl x u (D' (a + 5) u)) ∧ ∀ c, (c < a ∨ a + 191 ≤ c) → (c < 391 ∨ 457 ≤ c) → (c < 530 ∨ 573 ≤ c) → D' c = D c) := by
  have pa := pr_at k
  have hn := f.1
  have hpl := f.2.2.2
  have wp : ∀ j, j < n → 0 < w j := fun j hj => (f.2.2.1 j hj).1
  refine CV.intro mc_Fo_workOut (Nat.le_of_ble_eq_true rfl) rfl (s_Fo_workOut_0 k ((empty_ok k).mono fun D1 r1 => ?_))
  obtain ⟨p1, _, w1, f1⟩ := r1
  refine s_Fo_workOut_4 k ((setSmall_ok zf_532 (x := 1) (by omega)).mono fun D2 r2 => s_Fo_workOut_12 k ?_)
  have F2 : ∀ c, (c < a ∨ a + 191 ≤ c) → (c < 391 ∨ 457 ≤ c) → (c < 530 ∨ 573 ≤ c) → D2 c = D c := fun c c1 c2 c3 => by rw [r2.2 c (by omega) (by omega), f1 c (by omega) (by omega)]
  have j2 : JC D2 n r d w pl := h0.of fun c c1 c2 => F2 c (by omega) (by omega) (by omega)
  refine fo_left k f j2 (fun D3 z4 F3 I3 => ?_) n 0 D2 _ _ _ (by omega) FR.rf (fun i hi => by omega)
  have j3 := j2.fr F3 (by omega)
  refine (lastDeadline_ok f j3).mono fun y D4 r4 => ?_
  obtain ⟨rfl, hy⟩ := r4
  refine s_Fo_workOut_52 k ((firstRelease_ok f j3).mono fun v D5 r5 => ?_)
  obtain ⟨rfl, hv⟩ := r5
  refine s_Fo_workOut_64 k ?_
  -- first and last
  obtain ⟨fi, la, fl, e1, e2⟩ : ∃ fi la : Nat, FL n r d fi la ∧ min y 200 = (la : Int) ∧ max v 0 = (fi : Int) := by
    rcases hy with ⟨y1, y2⟩ | ⟨⟨j1, y1, y2⟩, y3⟩
    · have v0 : v = 0 := by
        rcases hv with ⟨z, _⟩ | ⟨⟨j, z, _⟩, _⟩
        · exact z
        · omega
      exact ⟨0, 0, Or.inl ⟨y1, rfl, rfl⟩, by omega, by omega⟩
    · have w1 := f.2.1 j1 y1
      rcases hv with ⟨z1, z2⟩ | ⟨⟨j2, z1, z2⟩, z3, z4⟩
      · have := z2 j1 y1; omega
      · have w2 := f.2.1 j2 z1
        have fle : ∀ j, j < n → v ≤ r j := fun j hj => z4 j hj (by have := f.2.1 j hj; omega)
        exact ⟨v.toNat, y.toNat, Or.inr ⟨by omega, ⟨j2, z1, by omega⟩, fun j hj => by have := fle j hj; omega, ⟨j1, y1, by omega⟩, fun j hj => by have := y3 j hj; omega⟩, by omega, by omega⟩
  rw [e1, e2]
  have fb := fl.bd f
  have out := ah_out f hx fb.2.2.1
  have dn := hx.done hpl wp f.2.1 la fb.2.1
  have pr3 : PR D5 a 0 (fun _ => 0) (fun _ => 0) (fun _ => 0) := ⟨by rw [F3 a (by omega) (by omega), r2.2 a (by omega) (by omega)]; exact p1.1, by omega, fun i hi => by omega⟩
  have w3 : ∀ u : Nat, u < 200 → D5 (a + 5) u = -1 := fun u hu => by rw [F3 (a + 5) (by omega) (by omega), r2.2 (a + 5) (by omega) (by omega)]; exact w1 u hu
  have F3' : ∀ c, (c < a ∨ a + 191 ≤ c) → (c < 391 ∨ 457 ≤ c) → (c < 530 ∨ 573 ≤ c) → D5 c = D c := fun c c1 c2 c3 => by rw [F3 c (by omega) (by omega)]; exact F2 c c1 c2 c3
  have inv := edf_inv (r := r) (x := x) hpl wp fi
  have fs : FS D5 n (edf n pl r w x fi) 1 w := ⟨r2.1.fr F3 (by omega), by omega, by decide, fun j hj => ⟨I3 j hj, by rw [inv.2.1 j hj (fb.2.2.1 j hj).1, show ((1 : Int) : Rat) = 1 from rfl, Rat.mul_one]⟩⟩
  have lb0 : LB x 1 fi (rl r fi fi n) (28 * dl d fi n + (fi - fi)) := by
    refine ⟨1, 1, by decide, by decide, Nat.pow_pos (by decide), Nat.pow_pos (by decide), Int.one_dvd _, fun i hi => ?_⟩
    rw [out i (by omega) (Or.inl hi)]; exact Int.one_dvd _
  have start : FI n r d w pl a x fi la D D5 fi 0 := by
    refine ⟨⟨Nat.le_refl fi, fb.1⟩, F3', ⟨1, w, fs, ?_, lb0⟩, ⟨0, _, _, _, pr3, Runs.nil (Nat.le_refl fi), fun _ => rfl, Nat.le_refl 0⟩, Or.inl ⟨rfl, rfl⟩, fun j hj z => ?_, fun u hu => Or.inl ⟨out u (by omega) (Or.inl hu), w3 u (by omega)⟩, fun u _ hu => w3 u hu⟩
    · have := Nat.pow_pos (n := rl r fi fi n) (show 0 < 200 by decide)
      omega
    · rw [inv.2.1 j hj (fb.2.2.1 j hj).1] at z
      have := Rat.intCast_eq_zero_iff.mp z
      have := wp j hj
      omega
  -- the end
  have fin : ∀ D st z0 z4 z5 z6 z7, FI n r d w pl a x fi la D5 D la st → Sg g M_Fo_workOut (rV (fun D' => (∃ L, SZ x 200 L) ∧ (∃ fi la n' b e rt, FL n r d fi la ∧ PR D' a n' b e rt ∧ Runs x fi la n' b e rt ∧ ∀ t, t < 200 → t < fi ∨ la ≤ t → x t = 0) ∧
      (∀ j, j < n → ∃ y, En n r w pl x j y ∧ Fq D' (a + 131 + 5 * j) y ∧ y.num < 2 ^ 475 ∧ (y.den : Int) < 2 ^ 475) ∧ (∀ u : Nat, u < 200 → Wk n r w pl x u (D' (a + 5) u)) ∧ ∀ c, (c < a ∨ a + 191 ≤ c) → (c < 391 ∨ 457 ≤ c) → (c < 530 ∨ 573 ≤ c) → D' c = D5 c)) 176 [z0, vR 1, vR a, vR 391, z4, z5, z6, z7] [] D := by
    intro D st z0 z4 z5 z6 z7 h
    obtain ⟨i1, i2, ⟨c, v, fs, cb, lb⟩, ⟨n', b, e, rt, pr, rn, nf, ns⟩, i5, i6, i7, i8⟩ := h
    have jc : JC D n r d w pl := j3.of fun c c1 c2 => i2 c (by omega) (by omega) (by omega)
    refine s_Fo_workOut_176 k (fo_lower k f jc (fun j hj => i6 j hj (dn j hj (fb.2.2.1 j hj).2)) (fun D6 F6 I6 => ?_) n 0 D _ _ _ _ (by omega) FR.rf (fun i hi => ⟨fun z => by omega, fun _ c _ _ => rfl⟩))
    have hrl : rl r fi la n ≤ 11 := by
      rcases fl with z | z
      · have : rl r fi la n ≤ n := cN_le n
        omega
      · exact rl_11 hn z.2.1
    have hdl := dl_12 (d := d) (t := (la : Int)) hn
    refine ⟨(lb.same (t' := 200) fun i i1 i2 => out i i2 (Or.inr i1)).sz hrl (by omega) (ah_bd f hx), ⟨fi, la, n', b, e, rt, fl, ⟨by rw [F6 a (by omega) (by omega)]; exact pr.1, pr.2.1, fun i hi => ?_⟩, rn, out⟩, I6, fun u hu => ?_, fun c c1 c2 c3 => by rw [F6 c (by omega) (by omega)]; exact i2 c c1 c2 c3⟩
    · have q := pr.2.2 i hi
      have := pr.2.1
      exact ⟨by rw [F6 (a + 1) (by omega) (by omega)]; exact q.1, by rw [F6 (a + 2) (by omega) (by omega)]; exact q.2.1, q.2.2.cells fun c c1 c2 => F6 c (by omega) (by omega)⟩
    · rw [F6 (a + 5) (by omega) (by omega)]
      rcases Nat.lt_or_ge u la with y | y
      · exact i7 u y
      · exact Or.inl ⟨out u hu (Or.inr y), i8 u y hu⟩
  have start5 : FI n r d w pl a x fi la D5 D5 fi 0 := ⟨start.1, fun _ _ _ _ => rfl, start.2.2⟩
  refine zg_post (Q := rV (fun D' => (∃ L, SZ x 200 L) ∧ (∃ fi la n' b e rt, FL n r d fi la ∧ PR D' a n' b e rt ∧ Runs x fi la n' b e rt ∧ ∀ t, t < 200 → t < fi ∨ la ≤ t → x t = 0) ∧
      (∀ j, j < n → ∃ y, En n r w pl x j y ∧ Fq D' (a + 131 + 5 * j) y ∧ y.num < 2 ^ 475 ∧ (y.den : Int) < 2 ^ 475) ∧ (∀ u : Nat, u < 200 → Wk n r w pl x u (D' (a + 5) u)) ∧ ∀ c, (c < a ∨ a + 191 ≤ c) → (c < 391 ∨ 457 ≤ c) → (c < 530 ∨ 573 ≤ c) → D' c = D5 c)) ?_ ?_
  · rcases Nat.eq_zero_or_pos n with z | z
    · have ef : fi = la := by
        rcases fl with h | h
        · omega
        · omega
      subst ef
      have e := fin D5 0 (vR 530) (vI fi) (vI fi) (vI 0) vU start5
      exact s_Fo_workOut_73 k ⟨fun _ => e, fun _ => ⟨fun _ => e, fun q => by omega⟩⟩
    · exact fo_loop k f j3 hx fl z fin la fi 0 D5 _ (by omega) start5
  · rintro _ _ D' ⟨q1, q2, q3, q4, q5, q6, q7⟩
    exact ⟨q1, q2, q3, q4, q5, q6, fun c c1 c2 c3 => by rw [q7 c c1 c2 c3]; exact F3' c c1 c2 c3⟩
/-- what holds of the class's AHEAD -/
def AhC (D : DD) (n : Nat) (r d w : Nat → Int) (pl : Nat → Nat) (x : Nat → Rat) : Prop := (∃ L, SZ x 200 L) ∧ PF D 200 n r d w pl x
theorem keAhead_ok (f : JF n r d w pl) (h0 : JC D n r d w pl) (hx : Ah n r d w pl x) :
    CI g M_Ke_ahead [vR 0] D (fun y D' => AhC D' n r d w pl x ∧ y = D' 200 1 ∧ D' 200 0 = 1 ∧ ∀ c, (c < 200 ∨ 457 ≤ c) → (c < 530 ∨ 573 ≤ c) → D' c = D c) := by
  refine CI.intro mc_Ke_ahead (Nat.le_of_ble_eq_true rfl) rfl (s_Ke_ahead_0 ((foWorkOut_ok (a := 200) rfl f h0 hx).mono fun D2 r2 => ?_))
  obtain ⟨⟨L, sz⟩, ⟨fi, la, n', b, e, rt, fl, pr, rn, out⟩, dn, wk, f2⟩ := r2
  refine s_Ke_ahead_19 ((cost_end (a := 200) rfl f sz fl pr rn out dn wk).mono fun D3 r3 => ?_)
  obtain ⟨pf, f3⟩ := r3
  refine s_Ke_ahead_30 fun D4 e4 => retI ⟨⟨⟨L, sz⟩, by rw [e4]; exact pf.ready rfl⟩, rfl, by rw [e4, zw_eq], fun c c1 c2 => ?_⟩
  rw [e4, zw_off (by omega), f3 c (by omega) (by omega), f2 c (by omega) (by omega) c2]
end FORE9
