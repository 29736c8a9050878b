/-! the model's AHEAD: between two stretches -/
/-- rows that AHEAD leaves alone -/
def rowsP (m : Int) : Prop := (0 ≤ m ∧ m < 48) ∨ (96 ≤ m ∧ m < 120) ∨ (144 ≤ m ∧ m < 218) ∨ (220 ≤ m ∧ m < 222)
/-- cells that AHEAD leaves alone -/
def CA (D0 D : DD) : Prop := (∀ c, c ≠ 708 → c ≠ 709 → c ≠ 710 → (c < 728 ∨ 731 ≤ c) → D c = D0 c) ∧ (∀ k : Int, k ≠ 26 → D 708 k = D0 708 k) ∧ RK rowsP D0 D
/-- the state between two stretches -/
def MAI (n : Nat) (r d w : Nat → Int) (pl : Nat → Nat) (x : Nat → Rat) (fi la : Nat) (D0 D : DD) (now st : Nat) : Prop :=
  (fi ≤ now ∧ now ≤ la) ∧ CA D0 D ∧
  (∃ c v, MFS D n (edf n pl r w x now) c v ∧ c ≤ ((200 ^ st : Nat) : Int)) ∧
  (∃ n' b e rt, MPR D 728 729 24 26 n' b e rt ∧ Runs x fi now n' b e rt ∧ (n' = 0 → now = fi) ∧ n' ≤ st) ∧
  ((st = 0 ∧ now = fi) ∨ (1 ≤ st ∧ fi < now ∧ (st : Int) ≤ evs n r d fi now + 1 ∧ Hid (now < la → Evt n r d now))) ∧
  (∀ j : Nat, j < n → edf n pl r w x now j = 0 → ∃ y, En n r w pl x j y ∧ Mq D (60 + (j : Int)) y) ∧
  (∀ u : Nat, u < now → Wk n r w pl x u (D 730 u)) ∧ ∀ u : Nat, now ≤ u → u < 200 → D 730 u = -1
section MAH6
variable {g : GG} {D D' D'' D0 : DD} {n : Nat} {r d w v : Nat → Int} {pl : Nat → Nat} {x : Nat → Rat}
theorem CA.rf : CA D D := ⟨fun _ _ _ _ _ => rfl, fun _ _ => rfl, RK.rf⟩
theorem CA.tr (h : CA D D') (h' : CA D' D'') : CA D D'' := ⟨fun c c1 c2 c3 c4 => (h'.1 c c1 c2 c3 c4).trans (h.1 c c1 c2 c3 c4), fun k hk => (h'.2.1 k hk).trans (h.2.1 k hk), h.2.2.tr h'.2.2⟩
theorem CA.fm {lo hi lo2 hi2 : Int} (h : FM lo hi lo2 hi2 D D') (q : ∀ m, rowsP m → (m < lo ∨ hi ≤ m) ∧ (m < lo2 ∨ hi2 ≤ m)) : CA D D' := ⟨fun c _ c2 c3 _ => h.1 c c2 c3, fun k _ => by rw [h.1 708 (by omega) (by omega)], h.rows.rk q⟩
theorem JM.ca (h : JM D n r d w) (q : CA D D') : JM D' n r d w := h.of (q.2.1 3 (by omega)) fun c c1 c2 => q.1 c (by omega) (by omega) (by omega) (by omega)
/-- a stretch's speed becomes a step -/
theorem ma_tail (f : JF n r d w pl) {fi la now st kk : Nat} {s : Rat} {c p q : Int} {D4 : DD} {Q : Option VV → EE → DD → Prop} (hk1 : 1 ≤ kk) (hla : now + kk ≤ la) (hla2 : la ≤ 200) (hfi : fi ≤ now) (hx : ∀ u, now ≤ u → u < now + kk → x u = s)
    (C4 : CA D0 D4) (hv : MFS D4 n (edf n pl r w x (now + kk)) c v) (cb : c ≤ ((200 ^ (st + 1) : Nat) : Int)) {n' : Nat} {b e : Nat → Nat} {rt : Nat → Rat} (mp : MPR D4 728 729 24 26 n' b e rt) (rn : Runs x fi now n' b e rt) (nf : n' = 0 → now = fi) (ns : n' ≤ st) (st23 : st < 24)
    (hst : (st = 0 ∧ now = fi) ∨ (1 ≤ st ∧ fi < now ∧ (st : Int) ≤ evs n r d fi now + 1 ∧ Hid (now < la → Evt n r d now))) (hlt : now < la) (hev : Hid (now + kk < la → Evt n r d ((now + kk : Nat) : Int)))
    (hdone : ∀ j : Nat, j < n → edf n pl r w x (now + kk) j = 0 → ∃ y, En n r w pl x j y ∧ Mq D4 (60 + (j : Int)) y) (hw1 : ∀ u : Nat, u < now + kk → Wk n r w pl x u (D4 730 u)) (hw2 : ∀ u : Nat, now + kk ≤ u → u < 200 → D4 730 u = -1)
    (hm : Mp D4 111 p q) (hq : 0 < q) (hq2 : q < MB ^ 99) (hpq : (p : Rat) / (q : Rat) = s)
    (hk : ∀ D z3 z4, MAI n r d w pl x fi la D0 D (now + kk) (st + 1) → Sg g M_Mo_ahead Q 87 [vR 708, vI la, vI ((now + kk : Nat) : Int), z3, z4] [] D) :
    ∀ z4, Sg g M_Mo_ahead Q 166 [vR 708, vI la, vI now, vI ((now + kk : Nat) : Int), z4] [] D4 := by
  intro z4
  have hn := f.1
  obtain ⟨p1, p2, p3⟩ := mp
  refine s_Mo_ahead_166 ((mreduce_ok (f := 111) (by omega) hm hq hq2).mono fun D5 r5 => ?_)
  rw [hpq] at r5
  obtain ⟨m5, F5⟩ := r5
  have C5 : CA D4 D5 := CA.fm F5 fun m hm => by unfold rowsP at hm; omega
  have h26 : D5 708 26 = n' := by rw [F5.1 708 (by omega) (by omega)]; exact p1
  have row5 : ∀ i : Nat, i < n' → D5 728 i = b i ∧ D5 729 i = e i ∧ Mq D5 (24 + (i : Int)) (rt i) := fun i hi => by
    have a := p3 i hi
    exact ⟨by rw [F5.1 728 (by omega) (by omega)]; exact a.1, by rw [F5.1 729 (by omega) (by omega)]; exact a.2.1, a.2.2.fm F5 (by omega)⟩
  -- the end of a step
  have fin1 : ∀ (D6 : DD) (z2 z4 : VV) (n2 : Nat) (b2 e2 : Nat → Nat) (rt2 : Nat → Rat), n2 ≤ 24 → 1 ≤ n2 → n2 ≤ st + 1 → D6 708 26 = (n2 : Int) → (∀ i : Nat, i < n2 → D6 728 i = b2 i ∧ (i + 1 < n2 → D6 729 i = e2 i) ∧ Mq D6 (24 + (i : Int)) (rt2 i)) → e2 (n2 - 1) = now + kk → Runs x fi (now + kk) n2 b2 e2 rt2 → CA D5 D6 → D6 730 = D5 730 → RF 48 96 48 96 D5 D6 →
      Sg g M_Mo_ahead Q 230 [vR 708, vI la, z2, vI ((now + kk : Nat) : Int), z4] [] D6 := by
    intro D6 z2 z4 n2 b2 e2 rt2 q1 q2 q3 q4 q5 q6 q7 q8 q9 q10
    refine s_Mo_ahead_230 ⟨⟨by rw [q4]; unfold R32; omega, by omega⟩, fun D7 e7 => hk D7 _ _ ?_⟩
    have C7 : CA D6 D7 := ⟨fun c _ _ _ c4 => by rw [e7, zw_off (by omega)], fun k _ => by rw [e7, zw_off (by omega)], RK.off (by rw [e7, zw_off (by omega)]) (by rw [e7, zw_off (by omega)])⟩
    have d9 : D7 709 = D6 709 := by rw [e7, zw_off (by omega)]
    have d10 : D7 710 = D6 710 := by rw [e7, zw_off (by omega)]
    have up : RF 48 96 48 96 D5 D7 := q10.tr (RF.off d9 d10)
    refine ⟨⟨by omega, hla⟩, ((C4.tr C5).tr q8).tr C7, ⟨c, v, (hv.rf hn F5.rows (by omega)).rf hn up (by omega), cb⟩, ⟨n2, b2, e2, rt2, ⟨by rw [e7, zw_off (by omega)]; exact q4, q1, fun i hi => ?_⟩, q7, fun z => by omega, q3⟩, Or.inr ⟨by omega, by omega, ?_, hev⟩, fun j hj z => ?_, fun u hu => ?_, fun u u1 u2 => ?_⟩
    · have a := q5 i hi
      refine ⟨by rw [e7, zw_off (by omega)]; exact a.1, ?_, a.2.2.off d9 d10⟩
      rw [e7, q4]
      rcases (show i + 1 = n2 ∨ i + 1 < n2 by omega) with y | y
      · rw [show (i : Int) = (n2 : Int) - 1 by omega, zw_eq, show i = n2 - 1 by omega, q6]
      · rw [zw_ne (Or.inr (by omega))]; exact a.2.1 y
    · rcases hst with ⟨s1, s2⟩ | ⟨s1, s2, s3, s4⟩
      · have := evs_nn (n := n) (r := r) (d := d) (f := fi) (t := ((now + kk : Nat) : Int))
        omega
      · have := evs_more (n := n) (r := r) (d := d) (f := (fi : Int)) (unhid s4 hlt) (by omega) (show (now : Int) < ((now + kk : Nat) : Int) by omega)
        omega
    · obtain ⟨y, y1, y2⟩ := hdone j hj z
      exact ⟨y, y1, (y2.fm F5 (by omega)).rw up (by omega)⟩
    · rw [e7, zw_off (by omega), q9, F5.1 730 (by omega) (by omega)]; exact hw1 u hu
    · rw [e7, zw_off (by omega), q9, F5.1 730 (by omega) (by omega)]; exact hw2 u u1 u2
  -- a new step
  have new : (0 < n' → rt (n' - 1) ≠ s) → ∀ z4, Sg g M_Mo_ahead Q 197 [vR 708, vI la, vI now, vI ((now + kk : Nat) : Int), z4] [] D5 := fun hne z4 => by
    refine s_Mo_ahead_197 ⟨by rw [h26]; unfold R32; omega, ?_⟩
    rw [h26]
    refine (mkeep_ok (f := 111) (h := 24 + (n' : Int)) (by omega) (by omega) (by omega) m5).mono fun D6 r6 => s_Mo_ahead_210 ⟨?_, fun D7 e7 => ⟨?_, fun D8 e8 => ?_⟩⟩
    · rw [r6.2.1 708 (by omega) (by omega), h26]; omega
    · rw [e7, zw_off (by omega), r6.2.1 708 (by omega) (by omega), h26]; unfold R32; omega
    · have v6 : D6 708 26 = n' := by rw [r6.2.1 708 (by omega) (by omega)]; exact h26
      have v7 : D7 708 26 = n' := by rw [e7, zw_off (by omega)]; exact v6
      rw [v6] at e7
      rw [v7] at e8
      have d9 : D8 709 = D6 709 := by rw [e8, zw_off (by omega), e7, zw_off (by omega)]
      have d10 : D8 710 = D6 710 := by rw [e8, zw_off (by omega), e7, zw_off (by omega)]
      have C8 : CA D5 D8 := by
        refine CA.tr (CA.fm r6.2 fun m hm => by unfold rowsP at hm; omega) ⟨fun c c1 _ _ c4 => by rw [e8, zw_off c1, e7, zw_off (by omega)], fun k hk => by rw [e8, zw_ne (Or.inr hk), e7, zw_off (by omega)], RK.off d9 d10⟩
      refine fin1 D8 _ _ (n' + 1) (fun i => if i = n' then now else b i) (fun i => if i = n' then now + kk else e i) (fun i => if i = n' then s else rt i) (by omega) (by omega) (by omega) (by rw [e8, zw_eq]; omega) (fun i hi => ⟨?_, fun hi2 => ?_, ?_⟩) (if_pos (by omega)) ?_ C8 ?_ ?_
      · rw [e8, zw_off (by omega), e7]
        rcases (show i = n' ∨ i < n' by omega) with y | y
        · subst y; rw [zw_eq]; show _ = ((if i = i then now else b i : Nat) : Int); rw [if_pos rfl]
        · rw [zw_ne (Or.inr (by omega)), r6.2.1 728 (by omega) (by omega), (row5 i y).1]; show _ = ((if i = n' then now else b i : Nat) : Int); rw [if_neg (by omega)]
      · rw [e8, zw_off (by omega), e7, zw_off (by omega), r6.2.1 729 (by omega) (by omega), (row5 i (by omega)).2.1]
        show _ = ((if i = n' then now + kk else e i : Nat) : Int)
        rw [if_neg (by omega)]
      · rcases (show i = n' ∨ i < n' by omega) with y | y
        · subst y
          show Mq D8 _ (if i = i then s else rt i)
          rw [if_pos rfl]
          have a : Mq D6 (24 + (i : Int)) s := r6.1
          exact a.off d9 d10
        · show Mq D8 _ (if i = n' then s else rt i)
          rw [if_neg (by omega)]
          exact ((row5 i y).2.2.fm r6.2 (by omega)).off d9 d10
      · exact rn.more nf (by omega) (fun u u1 u2 => hx u u1 u2) hne (fun i _ => rfl) (fun i _ => rfl) (fun i _ => rfl)
      · rw [e8, zw_off (by omega), e7, zw_off (by omega), r6.2.1 730 (by omega) (by omega)]
      · exact (r6.2.rows.mono fun m _ _ => by omega).tr (RF.off d9 d10)
  refine s_Mo_ahead_172 ⟨fun z => new (fun y => by omega) _, fun z => ?_⟩
  rw [h26] at z ⊢
  refine ⟨⟨by unfold R32; omega, by unfold R32; omega⟩, ?_⟩
  have last := (row5 (n' - 1) (by omega)).2.2
  rw [show (24 : Int) + ((n' - 1 : Nat) : Int) = 24 + (n' : Int) - 1 by omega] at last
  refine (mSame_ok (f := 111) (h := 24 + (n' : Int) - 1) (by omega) (by omega) m5 last).mono fun y D6 r6 => ?_
  obtain ⟨rfl, rfl⟩ := r6
  refine s_Mo_ahead_194 ⟨fun y => ?_, fun y => new (fun _ u => ?_) _⟩
  · have es : s = rt (n' - 1) := Decidable.byContradiction fun u => by rw [if_neg u] at y; exact y rfl
    refine fin1 D6 _ _ n' b (fun i => if i = n' - 1 then now + kk else e i) rt p2 (by omega) (by omega) h26 (fun i hi => ⟨(row5 i hi).1, fun hi2 => ?_, (row5 i hi).2.2⟩) (if_pos rfl) ?_ CA.rf rfl RF.rf
    · rw [(row5 i hi).2.1]
      show _ = ((if i = n' - 1 then now + kk else e i : Nat) : Int)
      rw [if_neg (by omega)]
    · exact rn.long (by omega) (by omega) (fun u u1 u2 => by rw [hx u u1 u2]) es.symm (fun i hi => rfl)
  · rw [if_pos u.symm] at y
    omega
end MAH6
