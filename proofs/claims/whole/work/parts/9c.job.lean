/-! job, level, clear -/
/-- one more in a row -/
def ext (f : Nat → Int) (n : Nat) (x : Int) : Nat → Int := fun j => if j = n then x else f j
def insP (pl : Nat → Nat) (n p : Nat) : Nat → Nat := fun q => if q < p then pl q else if q = p then n else pl (q - 1)
def vjob (n : Nat) (a b c : Int) : Prop := 0 ≤ a ∧ a < b ∧ b ≤ 200 ∧ 1 ≤ c ∧ c ≤ 1000 ∧ n < 12
section JOB
variable {g : GG} {D D0 : DD} {n : Nat} {r d w : Nat → Int} {pl : Nat → Nat} {a b c : Int}
theorem ins_pl (hpl : Pl n d pl) {p : Nat} (hp : p ≤ n) (h1 : ∀ q, q < p → d (pl q) ≤ b) (h2 : ∀ q, p ≤ q → q < n → b < d (pl q)) : Pl (n + 1) (ext d n b) (insP pl n p) := by
  have ex : ∀ q, q < n → ext d n b (pl q) = d (pl q) := fun q hq => if_neg (by have := hpl.1 q hq; omega)
  have en : ext d n b n = b := if_pos rfl
  have v1 : ∀ q, q < p → insP pl n p q = pl q := fun q hq => if_pos hq
  have v2 : insP pl n p p = n := by unfold insP; rw [if_neg (Nat.lt_irrefl p), if_pos rfl]
  have v3 : ∀ q, p < q → insP pl n p q = pl (q - 1) := fun q hq => by unfold insP; rw [if_neg (by omega), if_neg (by omega)]
  refine ⟨fun q hq => ?_, fun q q' hqq hq' => ?_, fun j hj => ?_⟩
  · rcases Nat.lt_trichotomy q p with y | y | y
    · rw [v1 q y]; have := hpl.1 q (by omega); omega
    · rw [y, v2]; omega
    · rw [v3 q y]; have := hpl.1 (q - 1) (by omega); omega
  · rcases Nat.lt_trichotomy q p with y | y | y
    · rcases Nat.lt_trichotomy q' p with z | z | z
      · rw [v1 q y, v1 q' z, ex q (by omega), ex q' (by omega)]; exact hpl.2.1 q q' hqq (by omega)
      · rw [v1 q y, z, v2, ex q (by omega), en]
        have u1 := h1 q y
        have u2 := hpl.1 q (by omega)
        omega
      · rw [v1 q y, v3 q' z, ex q (by omega), ex (q' - 1) (by omega)]; exact hpl.2.1 q (q' - 1) (by omega) (by omega)
    · rw [y, v2, v3 q' (by omega), en, ex (q' - 1) (by omega)]
      exact Or.inl (h2 (q' - 1) (by omega) (by omega))
    · rw [v3 q y, v3 q' (by omega), ex (q - 1) (by omega), ex (q' - 1) (by omega)]; exact hpl.2.1 (q - 1) (q' - 1) (by omega) (by omega)
  · rcases (show j = n ∨ j < n by omega) with y | y
    · exact ⟨p, by omega, by rw [v2, y]⟩
    · obtain ⟨q, hq, e⟩ := hpl.2.2 j y
      rcases Nat.lt_or_ge q p with z | z
      · exact ⟨q, by omega, by rw [v1 q z, e]⟩
      · exact ⟨q + 1, by omega, by rw [v3 (q + 1) (by omega)]; exact e⟩
theorem ext_jf (f : JF n r d w pl) (hv : vjob n a b c) {p : Nat} (hp : p ≤ n) (h1 : ∀ q, q < p → d (pl q) ≤ b) (h2 : ∀ q, p ≤ q → q < n → b < d (pl q)) : JF (n + 1) (ext r n a) (ext d n b) (ext w n c) (insP pl n p) := by
  obtain ⟨v1, v2, v3, v4, v5, v6⟩ := hv
  refine ⟨by omega, fun j hj => ?_, fun j hj => ?_, ins_pl f.2.2.2 hp h1 h2⟩
  · unfold ext
    rcases (show j = n ∨ j < n by omega) with y | y
    · rw [if_pos y, if_pos y]; omega
    · rw [if_neg (by omega), if_neg (by omega)]; exact f.2.1 j y
  · unfold ext
    rcases (show j = n ∨ j < n by omega) with y | y
    · rw [if_pos y]; omega
    · rw [if_neg (by omega)]; exact f.2.2.1 j y
theorem add_loop2 (f : JF n r d w pl) (hn : n < 12) (h1 : D0 1 0 = n) (h3 : ∀ j : Nat, j < n → D0 3 j = d j) (h5 : ∀ q : Nat, q < n → D0 5 q = pl q) {P : Int → DD → Prop}
    (hk : ∀ D p, p ≤ n → (∀ q, q < p → d (pl q) ≤ b) → (∀ q, p ≤ q → q < n → b < d (pl q)) → FR 1 2 5 6 D0 D → D 1 0 = n + 1 → (∀ i : Int, i ≠ 0 → D 1 i = D0 1 i) → (∀ q : Nat, q < n + 1 → D 5 q = insP pl n p q) → P n D) :
    ∀ (p : Nat) (D : DD) (z1 z3 : VV), p ≤ n → FR 5 6 5 6 D0 D → (∀ q, p ≤ q → q < n → b < d (pl q)) → (∀ q : Nat, q < p → D 5 q = pl q) → (∀ q : Nat, p < q → q ≤ n → D 5 q = pl (q - 1)) → Sg g M_Jo_add (rI P) 47 [vR 1, z1, vI b, z3, vI p] [] D := by
  intro p
  have last : ∀ (p : Nat) (D : DD) (z1 z2 z3 : VV), p ≤ n → FR 5 6 5 6 D0 D → (∀ q, q < p → d (pl q) ≤ b) → (∀ q, p ≤ q → q < n → b < d (pl q)) → (∀ q : Nat, q < p → D 5 q = pl q) → (∀ q : Nat, p < q → q ≤ n → D 5 q = pl (q - 1)) → Sg g M_Jo_add (rI P) 92 [vR 1, z1, z2, z3, vI p] [] D := by
    intro p D z1 z2 z3 hp F q0 q1 q2 q3
    have e1 : D 1 0 = n := by rw [F 1 (by omega) (by omega)]; exact h1
    refine s_Jo_add_92 ⟨by omega, fun D2 e2 => ?_⟩
    have d1 : D2 1 0 = n := by rw [e2, zw_off (by omega)]; exact e1
    rw [d1]
    refine ⟨by unfold R32; omega, fun D5 e5 => ⟨by rw [e5, zw_eq]; unfold R32; omega, ?_⟩⟩
    have d5 : D5 1 0 = n + 1 := by rw [e5, zw_eq]
    rw [d5, show (n : Int) + 1 - 1 = n by omega]
    refine retI (hk D5 p hp q0 q1 ?_ d5 (fun i hi => ?_) (fun q hq => ?_))
    · intro c c1 c2
      rw [e5, zw_off (by omega), e2, zw_off (by omega)]; exact F c c2 c2
    · rw [e5, zw_ne (Or.inr hi), e2, zw_off (by omega), F 1 (by omega) (by omega)]
    · rw [e5, zw_off (by omega), e2]
      unfold insP
      rcases Nat.lt_trichotomy q p with y | y | y
      · rw [if_pos y, zw_ne (Or.inr (by omega))]; exact q2 q y
      · rw [if_neg (by omega), if_pos y, y, zw_eq]; exact e1
      · rw [if_neg (by omega), if_neg (by omega), zw_ne (Or.inr (by omega))]; exact q3 q y (by omega)
  induction p with
  | zero =>
    intro D z1 z3 hp F q1 q2 q3
    exact s_Jo_add_47 ⟨fun _ => last 0 D _ _ _ hp F (fun q hq => by omega) q1 q2 q3, fun q => by omega⟩
  | succ p ih =>
    intro D z1 z3 hp F q1 q2 q3
    have em : ((p + 1 : Nat) : Int) - 1 = p := by omega
    have e5 := q2 p (by omega)
    have lp := f.2.2.2.1 p (by omega)
    have e3 : D 3 (pl p : Int) = d (pl p) := by rw [F 3 (by omega) (by omega)]; exact h3 _ lp
    have r1 : R32 (((p + 1 : Nat) : Int) - 1) := by unfold R32; omega
    refine s_Jo_add_47 ⟨fun q => by omega, fun _ => ?_⟩
    rw [em, e5, e3]
    rw [em] at r1
    refine ⟨⟨r1, by omega, by omega⟩, fun q => last (p + 1) D _ _ _ hp F (fun q' hq => ?_) q1 q2 q3, fun q => ⟨⟨r1, by omega, by omega⟩, fun D9 e9 => ⟨by unfold R32; omega, ?_⟩⟩⟩
    · rcases (show q' = p ∨ q' < p by omega) with y | y
      · rw [y]; exact q
      · have := f.2.2.2.2.1 q' p y (by omega)
        omega
    · rw [show ((p + 1 : Nat) : Int) + (-1) = p by omega]
      refine ih D9 _ _ (by omega) (by rw [e9]; exact F.tr (FR.w (by omega))) (fun q' h1 h2 => ?_) (fun q' hq => ?_) (fun q' h1 h2 => ?_)
      · rcases (show q' = p ∨ p + 1 ≤ q' by omega) with y | y
        · rw [y]; omega
        · exact q1 q' y h2
      · rw [e9, zw_ne (Or.inr (by omega))]; exact q2 q' (by omega)
      · rw [e9]
        rcases (show q' = p + 1 ∨ p + 1 < q' by omega) with y | y
        · rw [y, zw_eq]; rfl
        · rw [zw_ne (Or.inr (by omega))]; exact q3 q' y h2
theorem forget_ok : CV g M_Ke_forgetPlans [vR 0] D (fun D' => D' 9 0 = 0 ∧ D' 200 0 = 0 ∧ D' 573 0 = 0 ∧ (∀ c, c ≠ 9 → c ≠ 200 → c ≠ 573 → D' c = D c) ∧ ∀ i : Int, i ≠ 0 → D' 9 i = D 9 i ∧ D' 200 i = D 200 i ∧ D' 573 i = D 573 i) := by
  refine CV.intro mc_Ke_forgetPlans (Nat.le_of_ble_eq_true rfl) rfl (s_Ke_forgetPlans_0 fun D1 e1 D3 e3 D5 e5 => retV ⟨?_, ?_, ?_, fun c c1 c2 c3 => ?_, fun i hi => ⟨?_, ?_, ?_⟩⟩)
  · rw [e5, zw_off (by omega), e3, zw_off (by omega), e1, zw_eq]
  · rw [e5, zw_off (by omega), e3, zw_eq]
  · rw [e5, zw_eq]
  · rw [e5, zw_off (by omega), e3, zw_off (by omega), e1, zw_off (by omega)]
  · rw [e5, zw_off (by omega), e3, zw_off (by omega), e1, zw_ne (Or.inr hi)]
  · rw [e5, zw_off (by omega), e3, zw_ne (Or.inr hi), e1, zw_off (by omega)]
  · rw [e5, zw_ne (Or.inr hi), e3, zw_off (by omega), e1, zw_off (by omega)]
theorem keJob_ok (f : JF n r d w pl) (h0 : JC D n r d w pl) : CI g M_Ke_job [vR 0, vI a, vI b, vI c] D (fun y D' => (¬ vjob n a b c ∧ y = -1 ∧ D' = D) ∨ (vjob n a b c ∧ y = n ∧ D' 9 0 = 0 ∧ D' 200 0 = 0 ∧ D' 573 0 = 0 ∧ (∀ c, c = 0 ∨ (6 ≤ c ∧ c ≠ 9 ∧ c ≠ 200 ∧ c ≠ 573) → D' c = D c) ∧ ∃ p, JF (n + 1) (ext r n a) (ext d n b) (ext w n c) (insP pl n p) ∧ JC D' (n + 1) (ext r n a) (ext d n b) (ext w n c) (insP pl n p))) := by
  have hn := f.1
  have h1 := h0.1
  refine CI.intro mc_Ke_job (Nat.le_of_ble_eq_true rfl) rfl (s_Ke_job_0 ⟨fun q => retI (Or.inl ⟨fun v => by have := v.1; omega, rfl, rfl⟩), fun q1 => ⟨fun q => retI (Or.inl ⟨fun v => by have := v.2.2.1; omega, rfl, rfl⟩), fun q2 => ⟨fun q3 => ⟨fun q => retI (Or.inl ⟨fun v => by have := v.2.2.2.1; omega, rfl, rfl⟩), fun q4 => ⟨fun q => retI (Or.inl ⟨fun v => by have := v.2.2.2.2.1; omega, rfl, rfl⟩), fun q5 => ⟨fun q6 => ?_, fun q => retI (Or.inl ⟨fun v => by have := v.2.2.2.2.2; omega, rfl, rfl⟩)⟩⟩⟩, fun q => retI (Or.inl ⟨fun v => by have := v.2.1; omega, rfl, rfl⟩)⟩⟩⟩)
  have hv : vjob n a b c := ⟨by omega, q3, by omega, by omega, by omega, by omega⟩
  refine forget_ok.mono fun D1 r1 => s_Ke_job_48 ?_
  obtain ⟨g1, g2, g3, g4, g5⟩ := r1
  have k1 : D1 1 0 = n := by rw [g4 1 (by omega) (by omega) (by omega)]; exact h1
  refine CI.mono (P := fun y D' => y = n ∧ FR 1 6 1 6 D1 D' ∧ ∃ p, JF (n + 1) (ext r n a) (ext d n b) (ext w n c) (insP pl n p) ∧ JC D' (n + 1) (ext r n a) (ext d n b) (ext w n c) (insP pl n p)) (CI.intro mc_Jo_add (Nat.le_of_ble_eq_true rfl) rfl (s_Jo_add_0 ⟨fun _ => ?_, fun q => by omega⟩)) (fun y D' h => s_Ke_job_58 (retI (Or.inr ⟨hv, h.1, ?_, ?_, ?_, fun c hc => ?_, h.2.2⟩)))
  · rw [k1]
    refine ⟨by omega, fun D3 e3 => ?_⟩
    have t3 : D3 1 0 = n := by rw [e3, zw_off (by omega)]; exact k1
    rw [t3]
    refine ⟨by omega, fun D6 e6 => ?_⟩
    have t6 : D6 1 0 = n := by rw [e6, zw_off (by omega)]; exact t3
    rw [t6]
    refine ⟨by omega, fun D9 e9 => ?_⟩
    have t9 : D9 1 0 = n := by rw [e9, zw_off (by omega)]; exact t6
    rw [t9]
    have c2 : ∀ j : Nat, j < n + 1 → D9 2 j = ext r n a j := fun j hj => by
      rw [e9, zw_off (by omega), e6, zw_off (by omega), e3]
      unfold ext
      rcases (show j = n ∨ j < n by omega) with y | y
      · rw [if_pos y, y, zw_eq]
      · rw [if_neg (by omega), zw_ne (Or.inr (by omega)), g4 2 (by omega) (by omega) (by omega)]; exact (h0.2.1 j y).1
    have c3 : ∀ j : Nat, j < n + 1 → D9 3 j = ext d n b j := fun j hj => by
      rw [e9, zw_off (by omega), e6]
      unfold ext
      rcases (show j = n ∨ j < n by omega) with y | y
      · rw [if_pos y, y, zw_eq]
      · rw [if_neg (by omega), zw_ne (Or.inr (by omega)), e3, zw_off (by omega), g4 3 (by omega) (by omega) (by omega)]; exact (h0.2.1 j y).2.1
    have c4 : ∀ j : Nat, j < n + 1 → D9 4 j = ext w n c j := fun j hj => by
      rw [e9]
      unfold ext
      rcases (show j = n ∨ j < n by omega) with y | y
      · rw [if_pos y, y, zw_eq]
      · rw [if_neg (by omega), zw_ne (Or.inr (by omega)), e6, zw_off (by omega), e3, zw_off (by omega), g4 4 (by omega) (by omega) (by omega)]; exact (h0.2.1 j y).2.2
    have c5 : ∀ q : Nat, q < n → D9 5 q = pl q := fun q hq => by
      rw [e9, zw_off (by omega), e6, zw_off (by omega), e3, zw_off (by omega), g4 5 (by omega) (by omega) (by omega)]; exact h0.2.2 q hq
    refine add_loop2 (D0 := D9) f (by omega) t9 (fun j hj => by rw [c3 j (by omega)]; exact if_neg (by omega)) c5 (fun D p x1 x2 x3 x4 x5 _ x6 => ⟨rfl, ?_, p, ext_jf f hv x1 x2 x3, ⟨by rw [x5]; rfl, fun j hj => ?_, x6⟩⟩) n D9 _ _ (Nat.le_refl n) FR.rf (fun q h1 h2 => by omega) c5 (fun q h1 h2 => by omega)
    · intro c u1 u2
      rw [x4 c (by omega) (by omega), e9, zw_off (by omega), e6, zw_off (by omega), e3, zw_off (by omega)]
    · rw [x4 2 (by omega) (by omega), x4 3 (by omega) (by omega), x4 4 (by omega) (by omega)]
      exact ⟨c2 j hj, c3 j hj, c4 j hj⟩
  · rw [h.2.1 9 (by omega) (by omega)]; exact g1
  · rw [h.2.1 200 (by omega) (by omega)]; exact g2
  · rw [h.2.1 573 (by omega) (by omega)]; exact g3
  · rw [h.2.1 c (by omega) (by omega), g4 c (by omega) (by omega) (by omega)]
theorem in_ok {v lo hi : Int} : CI g M_Mo_in [vI v, vI lo, vI hi] D (fun y D' => D' = D ∧ y = if lo ≤ v ∧ v ≤ hi then 1 else 0) := by
  refine CI.intro mc_Mo_in (Nat.le_of_ble_eq_true rfl) rfl (s_Mo_in_0 ⟨fun q => retI ⟨rfl, ?_⟩, fun q => ⟨fun q2 => retI ⟨rfl, ?_⟩, fun q2 => retI ⟨rfl, ?_⟩⟩⟩)
  · rw [if_neg (by omega)]
  · rw [if_neg (by omega)]
  · rw [if_pos (by omega)]
theorem mJob_ok (f : JF n r d w pl) (h0 : JM D n r d w) : CI g M_Mo_job [vR 708, vI a, vI b, vI c] D (fun y D' => (¬ vjob n a b c ∧ y = -1 ∧ D' = zw D 708 0 0) ∨ (vjob n a b c ∧ y = n ∧ D' 708 10 = 0 ∧ D' 708 11 = 0 ∧ D' 708 12 = 0 ∧ D' 708 0 = 0 ∧ (∀ k : Int, k ≠ 0 → k ≠ 3 → k ≠ 10 → k ≠ 11 → k ≠ 12 → D' 708 k = D 708 k) ∧ (∀ c, c ≠ 708 → (c < 711 ∨ 714 ≤ c) → D' c = D c) ∧ JM D' (n + 1) (ext r n a) (ext d n b) (ext w n c))) := by
  have hn := f.1
  refine CI.intro mc_Mo_job (Nat.le_of_ble_eq_true rfl) rfl (s_Mo_job_0 fun D1 e1 => in_ok.mono fun y D2 r2 => ?_)
  obtain ⟨rfl, rfl⟩ := r2
  have k1 : D2 708 3 = n := by rw [e1, zw_ne (Or.inr (by omega))]; exact h0.1
  refine s_Mo_job_13 ⟨fun q => retI (Or.inl ⟨fun v => ?_, rfl, e1⟩), fun q => in_ok.mono fun y D3 r3 => ?_⟩
  · rw [if_pos ⟨v.1, by have := v.2.1; have := v.2.2.1; omega⟩] at q; omega
  obtain ⟨rfl, rfl⟩ := r3
  refine s_Mo_job_24 ⟨fun q2 => retI (Or.inl ⟨fun v => ?_, rfl, e1⟩), fun q2 => ⟨fun q3 => retI (Or.inl ⟨fun v => by have := v.2.1; omega, rfl, e1⟩), fun q3 => in_ok.mono fun y D4 r4 => ?_⟩⟩
  · rw [if_pos ⟨by have := v.1; have := v.2.1; omega, v.2.2.1⟩] at q2; omega
  obtain ⟨rfl, rfl⟩ := r4
  refine s_Mo_job_40 ⟨fun q4 => retI (Or.inl ⟨fun v => ?_, rfl, e1⟩), fun q4 => ⟨fun q5 => ?_, fun q5 => retI (Or.inl ⟨fun v => by have := v.2.2.2.2.2; omega, rfl, e1⟩)⟩⟩
  · rw [if_pos ⟨v.2.2.2.1, v.2.2.2.2.1⟩] at q4; omega
  have q' : 0 ≤ a ∧ a ≤ 200 := Decidable.byContradiction fun z => q (if_neg z)
  have q2' : 0 ≤ b ∧ b ≤ 200 := Decidable.byContradiction fun z => q2 (if_neg z)
  have q4' : 1 ≤ c ∧ c ≤ 1000 := Decidable.byContradiction fun z => q4 (if_neg z)
  have hv : vjob n a b c := ⟨q'.1, by omega, q2'.2, q4'.1, q4'.2, by omega⟩
  rw [k1]
  refine ⟨by omega, fun D5 e5 => ?_⟩
  have t5 : D5 708 3 = n := by rw [e5, zw_off (by omega)]; exact k1
  rw [t5]
  refine ⟨by omega, fun D7 e7 => ?_⟩
  have t7 : D7 708 3 = n := by rw [e7, zw_off (by omega)]; exact t5
  rw [t7]
  refine ⟨by omega, fun D10 e10 => ?_⟩
  have t10 : D10 708 3 = n := by rw [e10, zw_off (by omega)]; exact t7
  rw [t10]
  refine ⟨by unfold R32; omega, fun D13 e13 D15 e15 D17 e17 D19 e19 => ?_⟩
  have t19 : D19 708 3 = n + 1 := by rw [e19, zw_ne (Or.inr (by omega)), e17, zw_ne (Or.inr (by omega)), e15, zw_ne (Or.inr (by omega)), e13, zw_eq]
  rw [t19, show (n : Int) + 1 - 1 = n by omega]
  have off : ∀ c, c ≠ 708 → D19 c = D10 c := fun c hc => by rw [e19, zw_off hc, e17, zw_off hc, e15, zw_off hc, e13, zw_off hc]
  have o10 : D10 708 = D4 708 := by rw [e10, zw_off (by omega), e7, zw_off (by omega), e5, zw_off (by omega)]
  refine ⟨by unfold R32; omega, retI (Or.inr ⟨hv, rfl, ?_, ?_, ?_, ?_, fun k k1 k2 k3 k4 k5 => ?_, fun c c1 c2 => ?_, by rw [t19]; rfl, fun j hj => ⟨?_, ?_, ?_⟩⟩)⟩
  · rw [e19, zw_ne (Or.inr (by omega)), e17, zw_ne (Or.inr (by omega)), e15, zw_eq]
  · rw [e19, zw_ne (Or.inr (by omega)), e17, zw_eq]
  · rw [e19, zw_eq]
  · rw [e19, zw_ne (Or.inr (by omega)), e17, zw_ne (Or.inr (by omega)), e15, zw_ne (Or.inr (by omega)), e13, zw_ne (Or.inr (by omega)), o10, e1, zw_eq]
  · rw [e19, zw_ne (Or.inr k5), e17, zw_ne (Or.inr k4), e15, zw_ne (Or.inr k3), e13, zw_ne (Or.inr k2), o10, e1, zw_ne (Or.inr k1)]
  · rw [off c c1, e10, zw_off (by omega), e7, zw_off (by omega), e5, zw_off (by omega), e1, zw_off c1]
  · rw [off 711 (by omega), e10, zw_off (by omega), e7, zw_off (by omega), e5]
    unfold ext
    rcases (show j = n ∨ j < n by omega) with y | y
    · rw [if_pos y, y, zw_eq]
    · rw [if_neg (by omega), zw_ne (Or.inr (by omega)), e1, zw_off (by omega)]; exact (h0.2 j y).1
  · rw [off 712 (by omega), e10, zw_off (by omega), e7]
    unfold ext
    rcases (show j = n ∨ j < n by omega) with y | y
    · rw [if_pos y, y, zw_eq]
    · rw [if_neg (by omega), zw_ne (Or.inr (by omega)), e5, zw_off (by omega), e1, zw_off (by omega)]; exact (h0.2 j y).2.1
  · rw [off 713 (by omega), e10]
    unfold ext
    rcases (show j = n ∨ j < n by omega) with y | y
    · rw [if_pos y, y, zw_eq]
    · rw [if_neg (by omega), zw_ne (Or.inr (by omega)), e7, zw_off (by omega), e5, zw_off (by omega), e1, zw_off (by omega)]; exact (h0.2 j y).2.2
end JOB
