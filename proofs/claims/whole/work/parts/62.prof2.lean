/-! the Profile's methods -/
def PR (D : DD) (a n : Nat) (b e : Nat → Nat) (rt : Nat → Rat) : Prop := D a 1 = n ∧ n ≤ 24 ∧ ∀ i : Nat, i < n → D (a + 1) i = b i ∧ D (a + 2) i = e i ∧ Fq D (a + 11 + 5 * i) (rt i)
theorem PR.pf {D : DD} {a n : Nat} {b e : Nat → Nat} {rt : Nat → Rat} (h : PR D a n b e rt) : Pf D a n rt := ⟨h.1, h.2.1, fun i hi => (h.2.2 i hi).2.2⟩
theorem PR.fr {lo hi lo2 hi2 : Nat} {D D' : DD} {a n : Nat} {b e : Nat → Nat} {rt : Nat → Rat} (h : PR D a n b e rt) (f : FR lo hi lo2 hi2 D D') (q : (a + 131 ≤ lo ∨ hi ≤ a) ∧ (a + 131 ≤ lo2 ∨ hi2 ≤ a)) : PR D' a n b e rt := by
  refine ⟨by rw [f a (by omega) (by omega)]; exact h.1, h.2.1, fun i hi => ?_⟩
  have := h.2.1
  have a1 := h.2.2 i hi
  rw [f (a + 1) (by omega) (by omega), f (a + 2) (by omega) (by omega)]
  exact ⟨a1.1, a1.2.1, a1.2.2.fr f (by omega)⟩
/-- D' differs within the steps alone -/
def FA (a : Nat) (D D' : DD) : Prop := FR a (a + 3) (a + 11) (a + 131) D D' ∧ D' a 0 = D a 0
section PROF2
variable {g : GG} {D : DD} {a c n f m m2 : Nat} {x : Nat → Rat} {b e : Nat → Nat} {rt : Nat → Rat} {s : Rat}
theorem empty_ok (k : zk a = (0, 5, 0)) : CV g M_Pr_empty [vR a] D (fun D' => PR D' a 0 (fun _ => 0) (fun _ => 0) (fun _ => 0) ∧ D' a 0 = 0 ∧ (∀ j : Nat, j < 200 → D' (a + 5) j = -1) ∧ FR a (a + 1) (a + 5) (a + 6) D D') := by
  refine CV.intro mc_Pr_empty (Nat.le_of_ble_eq_true rfl) rfl (s_Pr_empty_0 k fun D1 e1 D3 e3 => (fill2_ok (zs_Pr_worker k) (by decide)).mono fun D4 r => s_Pr_empty_18 (retV ?_))
  have ea : D4 a = D3 a := r.1 a (by omega)
  refine ⟨⟨by rw [ea, e3, zw_eq]; rfl, by omega, fun i hi => by omega⟩, ?_, fun j hj => ?_, fun c h1 h2 => ?_⟩
  · rw [ea, e3, zw_ne (Or.inr (by decide)), e1, zw_eq]
  · rw [r.2 j, if_pos (by omega)]
  · rw [r.1 c (by omega), e3, zw_off (by omega), e1, zw_off (by omega)]
theorem append_ok (k : zk a = (0, 5, 0)) (kc : zk c = (0, 4, 0)) (hc : c + 4 < a ∨ a + 191 ≤ c) (hp : PR D a n b e rt) (hs : Fq D c s) (hR : Runs x f m n b e rt) (hf : n = 0 → m = f) (hm : m < m2) (hm2 : m2 ≤ 200) (hx : ∀ t, m ≤ t → t < m2 → x t = s) (hn : n < 24) :
    CV g M_Pr_append [vR a, vI m, vI m2, vR c] D (fun D' => ∃ n' b' e' rt', PR D' a n' b' e' rt' ∧ Runs x f m2 n' b' e' rt' ∧ 1 ≤ n' ∧ n ≤ n' ∧ n' ≤ n + 1 ∧ (0 < n → rt (n - 1) = s → n' = n) ∧ FA a D D') := by
  have p1 := hp.1
  -- a new step
  have new : (0 < n → rt (n - 1) ≠ s) → Sg g M_Pr_append (rV (fun D' => ∃ n' b' e' rt', PR D' a n' b' e' rt' ∧ Runs x f m2 n' b' e' rt' ∧ 1 ≤ n' ∧ n ≤ n' ∧ n' ≤ n + 1 ∧ (0 < n → rt (n - 1) = s → n' = n) ∧ FA a D D')) 40 [vR a, vI m, vI m2, vR c] [] D := by
    intro hne
    refine s_Pr_append_40 k kc ⟨fun q => by omega, fun _ => ⟨by omega, fun D3 e3 => ?_⟩⟩
    have a3 : D3 a = D a := by rw [e3, zw_off (by omega)]
    refine ⟨by rw [a3]; omega, fun D6 e6 => ?_⟩
    have a6 : D6 a = D a := by rw [e6, zw_off (by omega), a3]
    have e6n : D6 a 1 = (n : Int) := by rw [a6]; exact p1
    rw [a3, p1] at e6
    rw [p1] at e3
    refine ⟨by omega, ?_⟩
    rw [e6n, Int.toNat_natCast]
    have f6 : FR a (a + 3) a (a + 3) D D6 := (show FR a (a + 3) a (a + 3) D D3 by rw [e3]; exact FR.w (by omega)).tr (by rw [e6]; exact FR.w (by omega))
    refine (frCopy_ok (zk_rate k (by omega)) kc (by omega) (hs.fr f6 (by omega))).mono fun D7 r7 => ?_
    have f7 : FR (a + 11 + 5 * n) (a + 16 + 5 * n) (a + 11 + 5 * n) (a + 16 + 5 * n) D6 D7 := r7.2.mono fun c _ _ => by omega
    have a7 : D7 a = D a := by rw [f7 a (by omega) (by omega), a6]
    refine s_Pr_append_82 k ⟨by rw [a7]; unfold R32; omega, fun D9 e9 => retV ?_⟩
    rw [a7, p1] at e9
    have r1 : D9 (a + 1) = fun j => if j = (n : Int) then (m : Int) else D (a + 1) j := by rw [e9, zw_off (by omega), f7 (a + 1) (by omega) (by omega), e6, zw_off (by omega), e3, zw_row]
    have r2 : D9 (a + 2) = fun j => if j = (n : Int) then (m2 : Int) else D (a + 2) j := by rw [e9, zw_off (by omega), f7 (a + 2) (by omega) (by omega), e6, zw_row, e3, zw_off (by omega)]
    have f9 : FR a (a + 1) a (a + 1) D7 D9 := by rw [e9]; exact FR.w (by omega)
    refine ⟨n + 1, fun i => if i = n then m else b i, fun i => if i = n then m2 else e i, fun i => if i = n then s else rt i, ⟨?_, by omega, fun i hi => ?_⟩, hR.more hf hm hx hne (fun _ _ => rfl) (fun _ _ => rfl) (fun _ _ => rfl), by omega, by omega, by omega, fun q1 q2 => absurd q2 (hne q1), ?_, ?_⟩
    · rw [e9, zw_eq]; omega
    · rw [r1, r2]
      show (if (i : Int) = n then (m : Int) else D (a + 1) i) = ((if i = n then m else b i : Nat) : Int) ∧ (if (i : Int) = n then (m2 : Int) else D (a + 2) i) = ((if i = n then m2 else e i : Nat) : Int) ∧ Fq D9 (a + 11 + 5 * i) (if i = n then s else rt i)
      rcases (show i = n ∨ i < n by omega) with y | y
      · subst y
        rw [if_pos rfl, if_pos rfl, if_pos rfl, if_pos rfl, if_pos rfl]
        exact ⟨rfl, rfl, Fp.fr r7.1 f9 (by omega)⟩
      · have h := hp.2.2 i y
        rw [if_neg (by omega), if_neg (by omega), if_neg (by omega), if_neg (by omega), if_neg (by omega)]
        exact ⟨h.1, h.2.1, ((h.2.2.fr f6 (by omega)).fr f7 (by omega)).fr f9 (by omega)⟩
    · refine (f6.mono fun c _ _ => by omega).tr ((f7.mono fun c _ _ => by omega).tr (f9.mono fun c _ _ => by omega))
    · rw [e9, zw_ne (Or.inr (by decide)), a7]
  refine CV.intro mc_Pr_append (Nat.le_of_ble_eq_true rfl) rfl (s_Pr_append_0 k kc ⟨fun q => new (fun z => by omega), fun q => ⟨⟨by unfold R32; omega, by omega⟩, ?_⟩⟩)
  have en : D a 1 - 1 = ((n - 1 : Nat) : Int) := by omega
  rw [en, Int.toNat_natCast]
  have hl := hp.2.2 (n - 1) (by omega)
  refine (frSameq_ok (zk_rate k (by omega)) kc hl.2.2 hs).mono fun y D2 r2 => ?_
  obtain ⟨rfl, hy⟩ := r2
  refine s_Pr_append_22 k kc ⟨fun q => new (fun _ z => by rw [if_pos z] at hy; omega), fun q => ⟨⟨by unfold R32; omega, by omega⟩, fun D4 e4 => retV ?_⟩⟩
  have hsame : rt (n - 1) = s := Classical.byContradiction fun z => by rw [if_neg z] at hy; omega
  rw [en] at e4
  have r2 : D4 (a + 2) = fun j => if j = ((n - 1 : Nat) : Int) then (m2 : Int) else D2 (a + 2) j := by rw [e4, zw_row]
  have f4 : FR (a + 2) (a + 3) (a + 2) (a + 3) D2 D4 := by rw [e4]; exact FR.w (by omega)
  refine ⟨n, b, fun i => if i = n - 1 then m2 else e i, rt, ⟨by rw [f4 a (by omega) (by omega)]; exact p1, by omega, fun i hi => ?_⟩, hR.long (by omega) hm hx hsame (fun _ _ => rfl), by omega, Nat.le_refl n, by omega, fun _ _ => rfl, f4.mono fun c _ _ => by omega, by rw [f4 a (by omega) (by omega)]⟩
  have h := hp.2.2 i hi
  rw [r2, f4 (a + 1) (by omega) (by omega)]
  refine ⟨h.1, ?_, h.2.2.fr f4 (by omega)⟩
  show (if (i : Int) = ((n - 1 : Nat) : Int) then (m2 : Int) else D2 (a + 2) i) = ((if i = n - 1 then m2 else e i : Nat) : Int)
  rcases (show i = n - 1 ∨ i < n - 1 by omega) with y | y
  · rw [if_pos (by omega), if_pos y]
  · rw [if_neg (by omega), if_neg (by omega)]
    exact h.2.1
end PROF2
