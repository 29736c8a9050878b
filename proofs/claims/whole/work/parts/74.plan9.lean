/-! the Planner: workOut; SpeedKernel.plan -/
/-- what a profile holds: steps, ends, workers, cost -/
def PF (D : DD) (a n : Nat) (r d w : Nat → Int) (pl : Nat → Nat) (x : Nat → Rat) : Prop :=
  (∃ fi la n' b e rt, FL n r d fi la ∧ PR D a n' b e rt ∧ Runs x fi la n' b e rt) ∧
  (∀ j, j < n → ∃ y, En n r w pl x j y ∧ Fq D (a + 131 + 5 * j) y ∧ y.num < 2 ^ 475 ∧ (y.den : Int) < 2 ^ 475) ∧
  (∀ u : Nat, u < 200 → Wk n r w pl x u (D (a + 5) u)) ∧
  Fq D (a + 6) (su (cub x) 200) ∧ (su (cub x) 200).num < 2 ^ 475 ∧ (((su (cub x) 200).den : Nat) : Int) < 2 ^ 420
theorem Runs.rt {x : Nat → Rat} {f m n : Nat} {b e : Nat → Nat} {rt : Nat → Rat} (h : Runs x f m n b e rt) : ∀ i, i < n → b i < e i ∧ e i ≤ m ∧ rt i = x (b i) := fun i hi => by
  have h3 := h.2.2.1 i hi
  have p := h.pos i hi
  exact ⟨h3.1, p.2, (h3.2 (b i) (by omega) h3.1).symm⟩
theorem Runs.sz {x : Nat → Rat} {f m n : Nat} {b e : Nat → Nat} {rt : Nat → Rat} (h : Runs x f m n b e rt) (hm : m ≤ 200) {L : Int} (s : SZ x 200 L) : SZ rt n L := ⟨s.1, s.2.1, fun i hi => by
  have q := h.rt i hi
  rw [q.2.2]
  exact s.2.2 _ (by omega)⟩
theorem su_ext {x : Nat → Rat} {m m2 : Nat} (h : m ≤ m2) (q : ∀ t, t < m2 → m ≤ t → x t = 0) : su x m2 = su x m := by
  have e := sp_cut (P := fun _ => True) (f := x) h
  rw [sp_all (fun _ _ => trivial), sp_all (fun _ _ => trivial)] at e
  rw [e]
  have : sp (fun i => m ≤ i ∧ True) x m2 = 0 := by
    rw [← sp_no (P := fun _ => False) (f := x) (n := m2) (fun _ _ q => q)]
    have z := sp_congr (P := fun i => m ≤ i ∧ True) (P' := fun i => m ≤ i ∧ True) (f := x) (h := fun _ => 0) (n := m2) (fun _ _ => Iff.rfl) (fun i hi p => q i hi p.1)
    rw [z, sp_c, sp_no (P := fun _ => False) (f := x) (n := m2) (fun _ _ q => q), Rat.zero_mul]
  rw [this, Rat.add_zero]
theorem runs_cost {n : Nat} {r d w : Nat → Int} {pl : Nat → Nat} {x : Nat → Rat} {fi la n' : Nat} {b e : Nat → Nat} {rt : Nat → Rat} (h : Runs x fi la n' b e rt) (hf : FL n r d fi la) (f : JF n r d w pl) (out : ∀ t, t < 200 → t < fi ∨ la ≤ t → x t = 0) : su (cub x) 200 = su (fun i => rt i * rt i * rt i * (((e i : Int) - (b i : Int) : Int) : Rat)) n' := by
  have fb := hf.bd f
  have z0 : ∀ t, t < 200 → t < fi ∨ la ≤ t → cub x t = 0 := fun t ht q => by
    unfold cub; rw [out t ht q, Rat.mul_zero]
  rw [su_ext fb.2.1 (fun t ht q => z0 t ht (Or.inr q))]
  exact h.sum (y := fun v => v * v * v) (fun q => by have := h.1 q; omega) (fun t ht => z0 t (by omega) (Or.inl ht))
theorem pr_ready {D : DD} {a : Nat} {n : Nat} {b e : Nat → Nat} {rt : Nat → Rat} {v : Int} (h : PR D a n b e rt) : PR (zw D a 0 v) a n b e rt := by
  refine ⟨by rw [zw_ne (Or.inr (by omega))]; exact h.1, h.2.1, fun i hi => ?_⟩
  have q := h.2.2 i hi
  refine ⟨by rw [zw_off (by omega)]; exact q.1, by rw [zw_off (by omega)]; exact q.2.1, q.2.2.cells fun c c1 c2 => zw_off (by omega)⟩
theorem Cert.done {n : Nat} {r d w gs gj : Nat → Int} {G : Int} {W T : Int → Int} {pl : Nat → Nat} (c : Cert n r d w gs gj G W T) (hpl : Pl n d pl) : ∀ j, j < n → edf n pl r w (spd gs W T) 200 j = 0 := by
  intro j hj
  have inv := plan_inv c hpl 200 (by omega)
  have g := c.gj0 j hj
  have e := inv.2.2.2 (gj j) g.1 g.2
  rw [cap_no (by omega), Rat.mul_zero] at e
  have o := sp_one (P := fun i => gj i = gj j) (f := edf n pl r w (spd gs W T) 200) (n := n) hj rfl (fun i hi _ => inv.1 i hi)
  have := inv.1 j hj
  grind
section PLAN9
variable {g : GG} {D D0 : DD} {n a : Nat} {r d w : Nat → Int} {pl : Nat → Nat}
/-- the cost, behind all else -/
theorem cost_end (k : zk a = (0, 5, 0)) (f : JF n r d w pl) {x : Nat → Rat} {L : Int} (s : SZ x 200 L) {fi la n' : Nat} {b e : Nat → Nat} {rt : Nat → Rat} (hf : FL n r d fi la) (hp : PR D a n' b e rt) (hr : Runs x fi la n' b e rt) (out : ∀ t, t < 200 → t < fi ∨ la ≤ t → x t = 0)
    (hd : ∀ j, j < n → ∃ y, En n r w pl x j y ∧ Fq D (a + 131 + 5 * j) y ∧ y.num < 2 ^ 475 ∧ (y.den : Int) < 2 ^ 475) (hw : ∀ u : Nat, u < 200 → Wk n r w pl x u (D (a + 5) u)) :
    CV g M_Re_reckonCost [vR 391, vR a] D (fun D' => PF D' a n r d w pl x ∧ FR 391 457 (a + 6) (a + 11) D D') := by
  have pa := pr_at k
  have fb := hf.bd f
  have sr := hr.sz fb.2.1 s
  have hl : ∀ i : Nat, i < n' → D (a + 2) i - D (a + 1) i = (e i : Int) - (b i : Int) ∧ 0 ≤ (e i : Int) - (b i : Int) ∧ (e i : Int) - (b i : Int) ≤ 200 := fun i hi => by
    have q := hp.2.2 i hi
    have z := hr.rt i hi
    rw [q.1, q.2.1]
    exact ⟨rfl, by omega, by omega⟩
  refine (reckonCost_ok k hp.pf hl (fun i hi => (sr.2.2 i hi).1.2) s.1 s.2.1 (fun i hi => (sr.2.2 i hi).2)).mono fun D' h => ?_
  obtain ⟨⟨v, v1, v2, v3, v4⟩, v5⟩ := h
  rw [← runs_cost hr hf f out] at v1
  subst v1
  have hn := f.1
  refine ⟨⟨⟨fi, la, n', b, e, rt, hf, ?_, hr⟩, fun j hj => ?_, fun u hu => ?_, v2, v3, by omega⟩, v5⟩
  · refine ⟨by rw [v5 a (by omega) (by omega)]; exact hp.1, hp.2.1, fun i hi => ?_⟩
    have q := hp.2.2 i hi
    have := hp.2.1
    exact ⟨by rw [v5 (a + 1) (by omega) (by omega)]; exact q.1, by rw [v5 (a + 2) (by omega) (by omega)]; exact q.2.1, q.2.2.cells fun c c1 c2 => v5 c (by omega) (by omega)⟩
  · obtain ⟨y, y1, y2, y3⟩ := hd j hj
    exact ⟨y, y1, y2.cells fun c c1 c2 => v5 c (by omega) (by omega), y3⟩
  · rw [v5 (a + 5) (by omega) (by omega)]; exact hw u hu
theorem PF.ready (k : zk a = (0, 5, 0)) {x : Nat → Rat} (h : PF D a n r d w pl x) {v : Int} : PF (zw D a 0 v) a n r d w pl x := by
  obtain ⟨⟨fi, la, n', b, e, rt, h1, h2, h3⟩, h4, h5, h6, h7⟩ := h
  refine ⟨⟨fi, la, n', b, e, rt, h1, pr_ready h2, h3⟩, fun j hj => ?_, fun u hu => by rw [zw_off (by omega)]; exact h5 u hu, h6.cells fun c c1 c2 => zw_off (by omega), h7⟩
  obtain ⟨y, y1, y2, y3⟩ := h4 j hj
  exact ⟨y, y1, y2.cells fun c c1 c2 => zw_off (by omega), y3⟩
/-- what THE PLAN leaves in the class -/
def PG (D : DD) (n : Nat) (r d w : Nat → Int) (x : Nat → Rat) : Prop := ∃ G : Nat, G ≤ 12 ∧ D 457 0 = G ∧ Cert n r d w (gsD D) (gjD D) G (D 458) (D 459) ∧ (∀ k : Nat, k < G → Fq D (470 + 5 * k) (sdk (D 458) (D 459) k)) ∧ x = spd (gsD D) (D 458) (D 459)
theorem PG.of {D' : DD} {x : Nat → Rat} (h : PG D n r d w x) (q : ∀ c, 457 ≤ c → c < 530 → c ≠ 464 → D' c = D c) : PG D' n r d w x := by
  obtain ⟨G, g1, g2, g3, g4, g5⟩ := h
  have e1 : gsD D' = gsD D := by unfold gsD; rw [q 462 (by omega) (by omega) (by omega)]
  have e2 : gjD D' = gjD D := by unfold gjD; rw [q 461 (by omega) (by omega) (by omega)]
  have e3 := q 458 (by omega) (by omega) (by omega)
  have e4 := q 459 (by omega) (by omega) (by omega)
  refine ⟨G, g1, by rw [q 457 (by omega) (by omega) (by omega)]; exact g2, by rw [e1, e2, e3, e4]; exact g3, fun k hk => by rw [e3, e4]; exact (g4 k hk).cells fun c c1 c2 => q c (by omega) (by omega) (by omega), by rw [e1, e3, e4]; exact g5⟩
theorem workOut_ok (k : zk a = (0, 5, 0)) (f : JF n r d w pl) (h0 : JC D n r d w pl) (hz : D 463 0 = 0) (hid : Fq D 465 0) :
    CV g M_Pl_workOut [vR 457, vR 1, vR a] D (fun D' => ∃ x, PG D' n r d w x ∧ (∃ L, SZ x 200 L) ∧ (∃ fi la n' b e rt, FL n r d fi la ∧ PR D' a n' b e rt ∧ Runs x fi la n' b e rt ∧ ∀ t, t < 200 → t < fi ∨ la ≤ t → x t = 0) ∧
      (∀ j, j < n → ∃ y, En n r w pl x j y ∧ Fq D' (a + 131 + 5 * j) y ∧ y.num < 2 ^ 475 ∧ (y.den : Int) < 2 ^ 475) ∧ (∀ u : Nat, u < 200 → Wk n r w pl x u (D' (a + 5) u)) ∧ D' 463 0 = 0 ∧ FR a (a + 191) 457 530 D D' ∧ ∀ c, 465 ≤ c → c < 470 → D' c = D c) := by
  have pa := pr_at k
  refine CV.intro mc_Pl_workOut (Nat.le_of_ble_eq_true rfl) rfl (s_Pl_workOut_0 k ((empty_ok k).mono fun D1 r1 => ?_))
  obtain ⟨p1, _, w1, f1⟩ := r1
  refine s_Pl_workOut_4 k ((findGroups_ok f (h0.fr f1 (by omega)) (by rw [f1 463 (by omega) (by omega)]; exact hz)).mono fun D2 r2 => ?_)
  obtain ⟨f2, G, hG, gp, al⟩ := r2
  have hid2 : Fq D2 465 0 := (hid.fr f1 (by omega)).fr f2 (by omega)
  have j2 := (h0.fr f1 (by omega)).fr f2 (by omega)
  obtain ⟨gp1, gp2, gp3, gp4, gp5⟩ := id gp
  have c := pc_end gp1 f.2.1 (fun j hj => (f.2.2.1 j hj).1) al
  refine s_Pl_workOut_9 k ((layOut_ok k f j2 hG gp hid2 (p1.fr f2 (by omega))).mono fun D3 r3 => ?_)
  obtain ⟨⟨fi, la, fl, n', b, e, rt, pr3, rn, n23⟩, f3, _⟩ := r3
  have e3 : ∀ c, c < a ∨ a + 131 ≤ c → D3 c = D2 c := fun c q => f3 c (by omega) (by omega)
  have q1 : gsD D3 = gsD D2 := by unfold gsD; rw [e3 462 (by omega)]
  have q2 : gjD D3 = gjD D2 := by unfold gjD; rw [e3 461 (by omega)]
  have q3 := e3 458 (by omega)
  have q4 := e3 459 (by omega)
  have c3 : Cert n r d w (gsD D3) (gjD D3) G (D3 458) (D3 459) := by rw [q1, q2, q3, q4]; exact c
  refine s_Pl_workOut_15 k ((workOff_ok k f rfl (j2.of fun c _ _ => e3 c (by omega)) (by rw [e3 457 (by omega)]; exact gp2) (by omega) c3 (fun j hj => by rw [e3 464 (by omega), q4, e3 461 (by omega)]; exact gp4 j hj (al j hj)) (fun u hu => by rw [f3 (a + 5) (by omega) (by omega), f2 (a + 5) (by omega) (by omega)]; exact w1 u hu)).mono fun D4 r4 => s_Pl_workOut_21 (retV ?_))
  obtain ⟨o1, o2, o3, o4, o5⟩ := r4
  have hn := f.1
  have fb := fl.bd f
  refine ⟨spd (gsD D3) (D3 458) (D3 459), ?_, ⟨_, c3.sz f.1 f.2.2.1 hG⟩, ⟨fi, la, n', b, e, rt, fl, ?_, ?_, ?_⟩, fun j hj => ?_, o4, ?_, ?_, ?_⟩
  · refine PG.of (D := D3) ⟨G, hG, by rw [e3 457 (by omega)]; exact gp2, c3, fun k hk => ?_, rfl⟩ fun c c1 c2 c3 => o1 c c3 (by omega) (by omega)
    rw [q3, q4]
    exact (gp3 k hk).cells fun c c1 c2 => e3 c (by omega)
  · refine ⟨by rw [o1 a (by omega) (by omega) (by omega)]; exact pr3.1, pr3.2.1, fun i hi => ?_⟩
    have q := pr3.2.2 i hi
    have := pr3.2.1
    exact ⟨by rw [o1 (a + 1) (by omega) (by omega) (by omega)]; exact q.1, by rw [o1 (a + 2) (by omega) (by omega) (by omega)]; exact q.2.1, q.2.2.cells fun c c1 c2 => o1 c (by omega) (by omega) (by omega)⟩
  · rw [q1, q3, q4]; exact rn
  · exact dem_out (fun t ht => c3.spn ht) c3.dem c3.total fb.2.1 fb.1 fb.2.2.1
  · obtain ⟨y, y1, y2, y3, y4⟩ := o3 j hj (c3.done f.2.2.2 j hj)
    have b : (2 : Int) ^ 30 < 2 ^ 475 := by decide
    exact ⟨y, y1, y2, by omega, by omega⟩
  · rw [o1 463 (by omega) (by omega) (by omega), e3 463 (by omega)]; exact gp5
  · intro c c1 c2
    rw [o1 c (by omega) (by omega) (by omega), f3 c (by omega) (by omega), f2 c (by omega) (by omega), f1 c (by omega) (by omega)]
  · intro c c1 c2
    rw [o1 c (by omega) (by omega) (by omega), f3 c (by omega) (by omega), f2 c (by omega) (by omega), f1 c (by omega) (by omega)]
/-- what holds of the class's plan -/
def PlC (D : DD) (n : Nat) (r d w : Nat → Int) (pl : Nat → Nat) (x : Nat → Rat) : Prop := PG D n r d w x ∧ (∃ L, SZ x 200 L) ∧ PF D 9 n r d w pl x
theorem kePlan_ok (f : JF n r d w pl) (h0 : JC D n r d w pl) (hz : D 463 0 = 0) (hid : Fq D 465 0) :
    CI g M_Ke_plan [vR 0] D (fun y D' => (∃ x, PlC D' n r d w pl x) ∧ y = D' 9 1 ∧ D' 9 0 = 1 ∧ D' 573 0 = 0 ∧ D' 463 0 = 0 ∧ Fq D' 465 0 ∧ (∀ i : Int, i ≠ 0 → D' 573 i = D 573 i) ∧ FR 9 200 391 574 D D') := by
  refine CI.intro mc_Ke_plan (Nat.le_of_ble_eq_true rfl) rfl (s_Ke_plan_0 fun D1 e1 => ?_)
  have f1 : FR 573 574 573 574 D D1 := by rw [e1]; exact FR.w (by omega)
  refine (workOut_ok (a := 9) rfl f (h0.fr f1 (by omega)) (by rw [f1 463 (by omega) (by omega)]; exact hz)  (hid.fr f1 (by omega))).mono fun D2 r2 => ?_
  obtain ⟨x, pg, ⟨L, sz⟩, ⟨fi, la, n', b, e, rt, fl, pr, rn, out⟩, dn, wk, z2, f2, i2⟩ := r2
  refine s_Ke_plan_23 ((cost_end (a := 9) rfl f sz fl pr rn out dn wk).mono fun D3 r3 => ?_)
  obtain ⟨pf, f3⟩ := r3
  refine s_Ke_plan_34 fun D4 e4 => retI ⟨⟨x, ?_, ⟨L, sz⟩, by rw [e4]; exact pf.ready rfl⟩, rfl, by rw [e4, zw_eq], ?_, ?_, ?_, fun i hi => ?_, ?_⟩
  · refine pg.of fun c c1 c2 c3 => ?_
    rw [e4, zw_off (by omega), f3 c (by omega) (by omega)]
  · rw [e4, zw_off (by omega), f3 573 (by omega) (by omega), f2 573 (by omega) (by omega), e1, zw_eq]
  · rw [e4, zw_off (by omega), f3 463 (by omega) (by omega)]; exact z2
  · refine hid.cells fun c c1 c2 => ?_
    rw [e4, zw_off (by omega), f3 c (by omega) (by omega), i2 c (by omega) (by omega), f1 c (by omega) (by omega)]
  · rw [e4, zw_off (by omega), f3 573 (by omega) (by omega), f2 573 (by omega) (by omega), e1, zw_ne (Or.inr hi)]
  · intro c c1 c2
    rw [e4, zw_off (by omega), f3 c (by omega) (by omega), f2 c (by omega) (by omega), f1 c (by omega) (by omega)]
end PLAN9
