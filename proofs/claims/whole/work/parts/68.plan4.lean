/-! the Planner: findGroups -/
section PLAN4
variable {g : GG} {D D0 : DD} {n : Nat} {r d w : Nat → Int} {pl : Nat → Nat}
def GP (D : DD) (n : Nat) (r d w : Nat → Int) (G : Nat) : Prop :=
  PCert n r d w (gsD D) (gjD D) G (D 458) (D 459) ∧ D 457 0 = G ∧ (∀ k : Nat, k < G → Fq D (470 + 5 * k) (sdk (D 458) (D 459) k)) ∧ (∀ j : Nat, j < n → 0 ≤ D 461 j → D 464 j = w j * D 459 (D 461 j)) ∧ D 463 0 = 0
theorem cnt_all {gj : Nat → Int} {G : Int} (h : G ≤ si (fun j => if 0 ≤ gj j then 1 else 0) n) (hn : (n : Int) ≤ G) : ∀ j, j < n → 0 ≤ gj j := by
  intro j hj
  refine Decidable.byContradiction fun z => ?_
  have a := si_lt' (f := fun j => if 0 ≤ gj j then (1 : Int) else 0) (h := fun _ => 1) (k := j) (n := n) (fun i _ => by show (if 0 ≤ gj i then (1 : Int) else 0) ≤ 1; split <;> omega) hj (by show (if 0 ≤ gj j then (1 : Int) else 0) + 1 ≤ 1; rw [if_neg z]; omega)
  have b := si_le (f := fun _ => (1 : Int)) (B := 1) (n := n) (fun _ _ => Int.le_refl _)
  omega
theorem vld_rat (f : JF n r d w pl) {G : Int} {W T : Int → Int} (h : PCert n r d w (gsD D) (gjD D) G W T) {i k : Nat} (hi : i < n) (hk : k < n) (hrd : r i < d k) : ((cf (gsD D) (d k).toNat - cf (gsD D) (r i).toNat : Int) : Rat) = ftm (gsD D) (r i).toNat (d k).toNat ∧ (wki n r d w (gjD D) (r i) (d k) : Rat) = fwk n r d w (gjD D) (r i) (d k) := by
  have wi := f.2.1 i hi
  have wk := f.2.1 k hk
  exact ⟨cf_ftm (by omega) (fun t ht => (h.2.2.1 t (by omega)).1), wki_fwk (fun j hj => (h.2.1 j hj).1)⟩
theorem groups_loop (f : JF n r d w pl) (h0 : JC D0 n r d w pl) : ∀ (m G : Nat) (D : DD), G + m = 12 → FR 457 465 470 530 D0 D → GP D n r d w G →
    Sg g M_Pl_findGroups (rV (fun D' => FR 457 465 470 530 D0 D' ∧ ∃ G' : Nat, G' ≤ 12 ∧ GP D' n r d w G' ∧ ∀ j, j < n → 0 ≤ gjD D' j)) 23 [vR 457, vR 1, vI G] [] D := by
  have hn := f.1
  have wp : ∀ j, j < n → 0 < w j := fun j hj => (f.2.2.1 j hj).1
  intro m
  induction m with
  | zero =>
    intro G D hm hf hg
    obtain rfl : G = 12 := by omega
    refine s_Pl_findGroups_23 ⟨fun _ => retV ⟨hf, 12, by omega, hg, cnt_all (G := ((12 : Nat) : Int)) hg.1.2.2.2.2.2.2.2.2.2.2.2.2 (by omega)⟩, fun q => by omega⟩
  | succ m ih =>
    intro G D hm hf hg
    have h := h0.fr hf (by omega)
    obtain ⟨pc, hG, hr, hl, hz⟩ := hg
    refine s_Pl_findGroups_23 ⟨fun q => by omega, fun _ => (findDensest_ok f h hz).mono fun D2 r2 => ?_⟩
    obtain ⟨fd, bi⟩ := r2
    have e58 : D2 458 = D 458 := fd.1 458 (by omega) (by omega)
    have e59 : D2 459 = D 459 := fd.1 459 (by omega) (by omega)
    have e61 : D2 461 = D 461 := fd.1 461 (by omega) (by omega)
    have e62 : D2 462 = D 462 := fd.1 462 (by omega) (by omega)
    have e64 : D2 464 = D 464 := fd.1 464 (by omega) (by omega)
    have e0 : D2 457 0 = G := by rw [fd.2.1 0 (by omega)]; exact hG
    have gsE : gsD D2 = gsD D := by unfold gsD; rw [e62]
    have gjE : gjD D2 = gjD D := by unfold gjD; rw [e61]
    have hf2 : FR 457 465 470 530 D0 D2 := hf.tr (fd.1.mono fun c _ _ => by omega)
    have bd := bi.bd
    refine s_Pl_findGroups_34 ⟨fun q => ?_, fun q => retV ⟨hf2, G, by omega, ⟨by rw [gsE, gjE, e58, e59]; exact pc, e0, fun k hk => ?_, fun j hj => ?_, by rw [fd.2.2]; exact hz⟩, fun j hj => ?_⟩⟩
    · rcases bi with bi | ⟨b1, b2, b3, b4, ⟨i, k, v, p1, p2, p3, p4⟩, b6⟩
      · omega
      · obtain ⟨v1, v2, v3, v4, v5, v6, v7⟩ := v
        have wi := f.2.1 i v1
        have wk := f.2.1 k v2
        have h2 := h0.fr hf2 (by omega)
        refine (takeDensest_ok f h2 (G := G) (W1 := D2 457 11) (T1 := D2 457 12) (f := (r i).toNat) (t0 := (d k).toNat) e0 (by omega) (by omega) (by omega) (by omega) (by omega) rfl rfl (by omega) (by omega)).mono fun D3 r3 => ?_
        obtain ⟨t1, t2, t3, t4, t5, t6, t7, t8⟩ := r3
        refine s_Pl_findGroups_48 ⟨by unfold R32; omega, ih (G + 1) D3 (by omega) (hf2.tr (t1.mono fun c _ _ => by omega)) ⟨?_, by rw [t3]; omega, fun q hq => ?_, fun j hj => ?_, by rw [t2, fd.2.2]; exact hz⟩⟩
        · have vr := vld_rat f pc v1 v2 v5
          rw [gjE] at t8
          rw [e61] at t8
          rw [e62] at t7
          have key := pc_step (f := (r i).toNat) (t0 := (d k).toNat) (S := fun j => tkn r d (gjD D) ((r i).toNat : Int) ((d k).toNat : Int) j) (W1 := D2 457 11) (T1 := D2 457 12) pc f.2.1 wp (by omega) (by omega) (by omega) (by omega) ?_ (fun j hj q => ⟨by rw [q.1]; decide, fun t ht a b _ => by have := q.2; omega⟩) ?_ ?_ ⟨i, v1, Or.inl (by omega)⟩ ⟨k, v2, Or.inr (by omega)⟩ (gs' := gsD D3) (gj' := gjD D3) (W' := D3 458) (T' := D3 459) (fun t ht => ?_) (fun j hj => ⟨fun q => ((t8 j hj).1 q).1, fun q => ((t8 j hj).2 q).1⟩) (fun k => by rw [t4, e58]) (fun k => by rw [t5, e59])
          · rw [show ((G + 1 : Nat) : Int) = (G : Int) + 1 by omega]
            exact key
          · rw [p3]; exact vr.1
          · rw [p4, vr.2]
            unfold fwk
            exact sp_congr (fun j hj => by have := (pc.2.1 j hj).1; unfold tkn; omega) (fun _ _ _ => rfl)
          · refine best_max pc f.2.1 wp (by omega) (by omega) (fun i' k' a1 a2 a3 a4 a5 a6 a7 => ?_)
            have vr' := vld_rat f pc a1 a2 a5
            rw [← vr'.1] at a6
            rw [← vr'.2] at a7
            have g1 := (pc.2.1 i' a1).1
            have g2 := (pc.2.1 k' a2).1
            have q6 : 1 ≤ cf (gsD D) (d k').toNat - cf (gsD D) (r i').toNat := Rat.intCast_le_intCast.mp (by exact a6)
            have q7 := Rat.intCast_pos.mp a7
            have := b6 i' k' trivial ⟨a1, a2, by omega, by omega, a5, q6, q7⟩
            rw [← vr'.1, ← vr'.2, ← Rat.intCast_mul, ← Rat.intCast_mul]
            exact Rat.intCast_le_intCast.mpr this
          · have := t7 t ht
            have g1 := (pc.2.2.1 t ht).1
            refine ⟨fun q => this.1 ⟨q.1, q.2.1, ?_⟩, fun q => this.2 fun y => q ⟨y.1, y.2.1, ?_⟩⟩
            · have : gsD D t = D 462 t := rfl
              omega
            · have : gsD D t = D 462 t := rfl
              omega
        · rw [t4, t5, e58, e59]
          rcases (show q = G ∨ q < G by omega) with y | y
          · subst y
            show Fq D3 _ ((((if (q : Int) = q then D2 457 11 else D 458 q : Int)) : Rat) / ((if (q : Int) = q then D2 457 12 else D 459 q : Int) : Rat))
            rw [if_pos rfl, if_pos rfl]
            exact t6
          · show Fq D3 _ ((((if (q : Int) = G then D2 457 11 else D 458 q : Int)) : Rat) / ((if (q : Int) = G then D2 457 12 else D 459 q : Int) : Rat))
            rw [if_neg (by omega), if_neg (by omega)]
            exact ((hr q y).fr fd.1 (by omega)).fr t1 (by omega)
        · intro hj0
          have a := t8 j hj
          rcases Classical.em (tkn r d (gjD D2) ((r i).toNat : Int) ((d k).toNat : Int) j) with y | y
          · rw [(a.1 y).1, (a.1 y).2, t5]
            show _ = w j * (if (G : Int) = G then _ else _)
            rw [if_pos rfl]
          · rw [(a.2 y).1] at hj0 ⊢
            rw [(a.2 y).2, t5, e59]
            rw [e61] at hj0 ⊢
            have g1 := (pc.2.1 j hj).2
            have : gjD D j = D 461 j := rfl
            show _ = w j * (if D 461 j = (G : Int) then _ else D 459 (D 461 j))
            rw [if_neg (by omega), e64]
            exact hl j hj hj0
    · rw [e58, e59]; exact (hr k hk).fr fd.1 (by omega)
    · rw [e61, e64, e59]; exact hl j hj
    · rw [gjE]
      refine Decidable.byContradiction fun z => ?_
      have g1 := (pc.2.1 j hj).1
      have bs := best_some pc f.2.1 wp hj (by omega)
      have wj := f.2.1 j hj
      have vr := vld_rat f pc hj hj wj.2.1
      rcases bi with ⟨b1, b2, b3⟩ | b
      · refine b3 j j trivial ⟨hj, hj, by omega, by omega, wj.2.1, Rat.intCast_le_intCast.mp (by rw [vr.1]; exact bs.1), Rat.intCast_pos.mp (by rw [vr.2]; exact bs.2)⟩
      · omega
theorem findGroups_ok (f : JF n r d w pl) (h0 : JC D n r d w pl) (hz : D 463 0 = 0) : CV g M_Pl_findGroups [vR 457, vR 1] D (fun D' => FR 457 465 470 530 D D' ∧ ∃ G : Nat, G ≤ 12 ∧ GP D' n r d w G ∧ ∀ j, j < n → 0 ≤ gjD D' j) := by
  have hn := f.1
  refine CV.intro mc_Pl_findGroups (Nat.le_of_ble_eq_true rfl) rfl (s_Pl_findGroups_0 fun D1 e1 => (fill2_ok (a := 461) (n0 := 12) rfl (by decide)).mono fun D2 r2 => s_Pl_findGroups_13 ((fill2_ok (a := 462) (n0 := 200) rfl (by decide)).mono fun D3 r3 => s_Pl_findGroups_21 ?_))
  have hf : FR 457 465 470 530 D D3 := fun c c1 c2 => by rw [r3.1 c (by omega), r2.1 c (by omega), e1, zw_off (by omega)]
  have a61 : ∀ j : Nat, j < 12 → D3 461 j = -1 := fun j hj => by rw [r3.1 461 (by decide), r2.2 j, if_pos (by omega)]
  have a62 : ∀ t : Nat, t < 200 → D3 462 t = -1 := fun t ht => by rw [r3.2 t, if_pos (by omega)]
  have a63 : D3 463 0 = 0 := by rw [r3.1 463 (by decide), r2.1 463 (by decide), e1, zw_off (by decide)]; exact hz
  have a57 : D3 457 0 = 0 := by rw [r3.1 457 (by decide), r2.1 457 (by decide), e1, zw_eq]
  refine groups_loop f h0 12 0 D3 (by omega) hf ⟨pc_start f.2.1 (fun t ht => a62 t ht) (fun j hj => a61 j (by omega)), a57, fun k hk => by omega, fun j hj q => ?_, a63⟩
  have := a61 j (by omega)
  omega
end PLAN4
