/-! the Planner: layOutSteps -/
section PLAN5
variable {g : GG} {D D0 : DD} {n a : Nat} {r d w : Nat → Int} {pl : Nat → Nat}
/-- the first release and the last deadline; 0 and 0 without jobs -/
def FL (n : Nat) (r d : Nat → Int) (fi la : Nat) : Prop := (n = 0 ∧ fi = 0 ∧ la = 0) ∨ (0 < n ∧ (∃ j, j < n ∧ r j = fi) ∧ (∀ j, j < n → (fi : Int) ≤ r j) ∧ (∃ j, j < n ∧ d j = la) ∧ ∀ j, j < n → d j ≤ la)
theorem FA.tr {a : Nat} {D D' D'' : DD} (h : FA a D D') (h' : FA a D' D'') : FA a D D'' := ⟨h.1.tr h'.1, h'.2.trans h.2⟩
theorem hasGroup_ok {G : Nat} (hG : D 457 0 = G) {x : Int} : CI g M_Pl_hasGroup [vR 457, vI x] D (fun y D' => D' = D ∧ y = if 0 ≤ x ∧ x < G then 1 else 0) := by
  refine CI.intro mc_Pl_hasGroup (Nat.le_of_ble_eq_true rfl) rfl (s_Pl_hasGroup_0 ⟨fun q => retI ⟨rfl, ?_⟩, fun q => ⟨fun q2 => retI ⟨rfl, ?_⟩, fun q2 => retI ⟨rfl, ?_⟩⟩⟩)
  · rw [if_neg (by omega)]
  · rw [if_neg (by omega)]
  · rw [if_pos (by omega)]
theorem steps_loop (k : zk a = (0, 5, 0)) {G fi la : Nat} (hn : n ≤ 12) (hg : GP D0 n r d w G) (hG : G ≤ 12) (hid : Fq D0 465 0) (hfe : ∃ j, j < n ∧ r j = fi) (hle : ∃ j, j < n ∧ d j = la) (hla : la ≤ 200) :
    ∀ (m t from_ n' : Nat) (b e : Nat → Nat) (rt : Nat → Rat) (D : DD) (z1 z6 : VV), t + m = la → fi ≤ from_ → from_ ≤ t → (from_ = t → t = la ∨ True) → FA a D0 D → PR D a n' b e rt → Runs (spd (gsD D0) (D0 458) (D0 459)) fi from_ n' b e rt → (∀ u, from_ ≤ u → u ≤ t → t < la → gsD D0 u = gsD D0 t) → ((n' = 0 ∧ from_ = fi) ∨ (1 ≤ n' ∧ fi < from_ ∧ (n' : Int) ≤ evs n r d fi from_ + 1 ∧ (from_ < la → Evt n r d from_))) → (t = la → from_ = la) →
    Sg g M_Pl_layOutSteps (rV (fun D' => (∃ n' b e rt, PR D' a n' b e rt ∧ Runs (spd (gsD D0) (D0 458) (D0 459)) fi la n' b e rt ∧ n' ≤ 23) ∧ FA a D0 D')) 25 [vR 457, z1, vR a, vI la, vI from_, vI t, z6] [] D := by
  obtain ⟨pc, hg0, hr, hl, hz⟩ := hg
  have pa := pr_at k
  intro m
  induction m with
  | zero =>
    intro t fr n' b e rt D z1 z6 hm h1 h2 _ hf hp hR hs hc hend
    have et : t = la := by omega
    have ef := hend et
    subst et
    subst ef
    have e22 := evs_22 (n := n) (r := r) (d := d) (f := fi) (t := fr) hn hfe hle
    exact s_Pl_layOutSteps_25 k ⟨fun _ => retV ⟨⟨n', b, e, rt, hp, hR, by omega⟩, hf⟩, fun q => by omega⟩
  | succ m ih =>
    intro t fr n' b e rt D z1 z6 hm h1 h2 _ hf hp hR hs hc hend
    have e62 : D 462 = D0 462 := hf.1 462 (by omega) (by omega)
    have e57 : D 457 = D0 457 := hf.1 457 (by omega) (by omega)
    have ht : gsD D0 t = D0 462 t := rfl
    have ht1 : gsD D0 (t + 1) = D0 462 (((t + 1 : Nat)) : Int) := rfl
    have e22 := evs_22 (n := n) (r := r) (d := d) (f := fi) (t := la) hn hfe hle
    have em := evs_mono (n := n) (r := r) (d := d) (f := fi) (t := fr) (t' := la) (by omega)
    have g2 := pc.2.2.1 t (by omega)
    -- one stretch laid out
    have app : (t + 1 = la ∨ gsD D0 (t + 1) ≠ gsD D0 t) → ∀ z1 z6, Sg g M_Pl_layOutSteps (rV (fun D' => (∃ n' b e rt, PR D' a n' b e rt ∧ Runs (spd (gsD D0) (D0 458) (D0 459)) fi la n' b e rt ∧ n' ≤ 23) ∧ FA a D0 D')) 58 [vR 457, z1, vR a, vI la, vI fr, vI t, z6] [] D := by
      intro hch z1 z6
      have after : ∀ (c : Nat) (kc : zk c = (0, 4, 0)), (c = 465 ∨ 470 ≤ c) → Fq D c (spd (gsD D0) (D0 458) (D0 459) t) → CV g M_Pr_append [vR a, vI fr, vI ((t : Int) + 1), vR c] D (fun D' => ∀ z1 z4 z6, Sg g M_Pl_layOutSteps (rV (fun D' => (∃ n' b e rt, PR D' a n' b e rt ∧ Runs (spd (gsD D0) (D0 458) (D0 459)) fi la n' b e rt ∧ n' ≤ 23) ∧ FA a D0 D')) 100 [vR 457, z1, vR a, vI la, z4, vI t, z6] [] D') := by
        intro c kc hc' hq
        have key := append_ok (g := g) (D := D) (x := spd (gsD D0) (D0 458) (D0 459)) (m := fr) (m2 := t + 1) k kc (by omega) hp hq hR (by omega) (by omega) (by omega) (fun u u1 u2 => by
          have := hs u u1 (by omega) (by omega)
          unfold spd
          rw [this]) (by omega)
        refine CV.mono key fun D2 r2 z1 z4 z6 => ?_
        obtain ⟨n2, b2, e2, rt2, p2, R2, q1, q2, q3, q4, f2⟩ := r2
        refine s_Pl_layOutSteps_100 k ⟨by unfold R32; omega, s_Pl_layOutSteps_106 k ⟨by unfold R32; omega, ?_⟩⟩
        have := ih (t + 1) (t + 1) n2 b2 e2 rt2 D2 vU vU (by omega) (by omega) (Nat.le_refl _) (fun _ => Or.inr trivial) (hf.tr f2) p2 R2 (fun u u1 u2 _ => by rw [show u = t + 1 by omega]) (Or.inr ⟨q1, by omega, ?_, fun q => ?_⟩) (fun q => q)
        · exact this
        · rcases hc with ⟨c1, c2⟩ | ⟨c1, c2, c3, c4⟩
          · have := evs_nn (n := n) (r := r) (d := d) (f := fi) (t := ((t + 1 : Nat) : Int))
            omega
          · have := evs_more (n := n) (r := r) (d := d) (f := fi) (t := fr) (t' := ((t + 1 : Nat) : Int)) (c4 (by omega)) (by omega) (by omega)
            omega
        · rcases hch with y | y
          · omega
          · exact pc.2.2.2.2.2.2.2.2.2.2.1 t (by omega) (fun z => y z.symm)
      refine s_Pl_layOutSteps_58 k ⟨⟨by omega, by unfold R32; omega⟩, ?_⟩
      rw [e62, ← ht]
      refine (hasGroup_ok (G := G) (by rw [e57]; exact hg0)).mono fun y D2 r2 => ?_
      obtain ⟨rfl, hy⟩ := r2
      refine s_Pl_layOutSteps_80 k ⟨fun y0 => ?_, fun y0 => ⟨?_, ?_⟩⟩
      · have neg : gsD D0 t < 0 := by
          rcases Int.lt_or_le (gsD D0 t) 0 with x | x
          · exact x
          · rw [if_pos ⟨x, g2.2⟩] at hy; omega
        refine s_Pl_layOutSteps_97 k ((after 465 (by decide) (Or.inl rfl) ?_).mono fun D3 q => q _ _ _)
        have : spd (gsD D0) (D0 458) (D0 459) t = 0 := by unfold spd; rw [if_pos neg]
        rw [this]
        exact hid.fr hf.1 (by omega)
      · have : 0 ≤ gsD D0 t := Decidable.byContradiction fun z => by rw [if_neg (by omega)] at hy; omega
        omega
      · have nn : 0 ≤ gsD D0 t := Decidable.byContradiction fun z => by rw [if_neg (by omega)] at hy; omega
        refine s_Pl_layOutSteps_97b k (zk_grate (by omega)) ((after (470 + 5 * (gsD D0 t).toNat) (zk_grate (by omega)) (Or.inr (by omega)) ?_).mono fun D3 q => q _ _ _)
        have e1 : spd (gsD D0) (D0 458) (D0 459) t = sdk (D0 458) (D0 459) ((gsD D0 t).toNat : Int) := by unfold spd; rw [if_neg (by omega), show (((gsD D0 t).toNat : Nat) : Int) = gsD D0 t by omega]
        rw [e1]
        exact (hr (gsD D0 t).toNat (by omega)).fr hf.1 (by omega)
    refine s_Pl_layOutSteps_25 k ⟨fun q => by omega, fun _ => ⟨by unfold R32; omega, fun q => app (Or.inl (by omega)) _ _, fun q => ⟨⟨by unfold R32; omega, by omega, by omega⟩, fun q2 => ?_, fun q2 => app (Or.inr ?_) _ _⟩⟩⟩
    · rw [e62] at q2
      refine s_Pl_layOutSteps_106 k ⟨by unfold R32; omega, ?_⟩
      have := ih (t + 1) fr n' b e rt D vU vU (by omega) h1 (by omega) (fun _ => Or.inr trivial) hf hp hR (fun u u1 u2 u3 => ?_) hc (fun z => by omega)
      · exact this
      · have e1 : gsD D0 (t + 1) = gsD D0 t := by rw [ht1, ht]; exact q2
        rcases (show u = t + 1 ∨ u ≤ t by omega) with y | y
        · rw [y]
        · rw [e1]; exact hs u u1 y (by omega)
    · rw [e62] at q2
      rw [ht1, ht]
      exact q2
theorem layOut_ok (k : zk a = (0, 5, 0)) (f : JF n r d w pl) (h0 : JC D n r d w pl) {G : Nat} (hG : G ≤ 12) (hg : GP D n r d w G) (hid : Fq D 465 0) (hp : PR D a 0 (fun _ => 0) (fun _ => 0) (fun _ => 0)) :
    CV g M_Pl_layOutSteps [vR 457, vR 1, vR a] D (fun D' => (∃ fi la, FL n r d fi la ∧ ∃ n' b e rt, PR D' a n' b e rt ∧ Runs (spd (gsD D) (D 458) (D 459)) fi la n' b e rt ∧ n' ≤ 23) ∧ FA a D D') := by
  refine CV.intro mc_Pl_layOutSteps (Nat.le_of_ble_eq_true rfl) rfl (s_Pl_layOutSteps_0 k ((lastDeadline_ok f h0).mono fun y D2 r2 => ?_))
  obtain ⟨rfl, hy⟩ := r2
  refine s_Pl_layOutSteps_4 k ((firstRelease_ok f h0).mono fun x D3 r3 => ?_)
  obtain ⟨rfl, hx⟩ := r3
  refine s_Pl_layOutSteps_15 k ?_
  rcases hy with ⟨y1, y2⟩ | ⟨⟨j1, y1, y2⟩, y3⟩
  · subst y1
    have x0 : x = 0 := by
      rcases hx with ⟨z, _⟩ | ⟨⟨j, z, _⟩, _⟩
      · exact z
      · omega
    subst y2; subst x0
    refine s_Pl_layOutSteps_25 k ⟨fun _ => retV ⟨⟨0, 0, Or.inl ⟨rfl, rfl, rfl⟩, 0, _, _, _, hp, Runs.nil (Nat.le_refl 0), by omega⟩, FR.rf, rfl⟩, fun q => by omega⟩
  · have w1 := f.2.1 j1 y1
    rcases hx with ⟨z1, z2⟩ | ⟨⟨j2, z1, z2⟩, z3, z4⟩
    · have := z2 j1 y1; omega
    · have w2 := f.2.1 j2 z1
      have fle : ∀ j, j < n → x ≤ r j := fun j hj => z4 j hj (by have := f.2.1 j hj; omega)
      have a1 := fle j1 y1
      rw [show min y 200 = ((y.toNat : Nat) : Int) by omega, show max x 0 = ((x.toNat : Nat) : Int) by omega]
      refine zg_post (steps_loop k f.1 hg hG hid (fi := x.toNat) (la := y.toNat) ⟨j2, z1, by omega⟩ ⟨j1, y1, by omega⟩ (by omega) (y.toNat - x.toNat) x.toNat x.toNat 0 _ _ _ D3 _ _ (by omega) (Nat.le_refl _) (Nat.le_refl _) (fun _ => Or.inr trivial) ⟨FR.rf, rfl⟩ hp (Runs.nil (Nat.le_refl _)) (fun u u1 u2 _ => by rw [show u = x.toNat by omega]) (Or.inl ⟨rfl, rfl⟩) (fun z => z)) ?_
      intro r' E' D' h
      obtain ⟨q1, q2, ⟨n', b, e, rt, q3⟩, q4⟩ := h
      exact ⟨q1, q2, ⟨x.toNat, y.toNat, Or.inr ⟨by omega, ⟨j2, z1, by omega⟩, fun j hj => by have := fle j hj; omega, ⟨j1, y1, by omega⟩, fun j hj => by have := y3 j hj; omega⟩, n', b, e, rt, q3⟩, q4⟩
end PLAN5
