/-! Foresight: isOpen, findDensest -/
theorem zk_left {j : Nat} (hj : j < 12) : zk (549 + 2 * j) = (0, 3, 0) := by
  have := ze_4 (a := 531) (i := j) (by decide +kernel) hj
  rwa [show 531 + 18 + 2 * j = 549 + 2 * j by omega] at this
/-- what is left of each job, over one number -/
def FS (D : DD) (n : Nat) (R : Nat → Rat) (c : Int) (v : Nat → Int) : Prop := Na D 532 c ∧ 0 < c ∧ c < 2 ^ 90 ∧ ∀ j : Nat, j < n → Na D (549 + 2 * j) (v j) ∧ (v j : Rat) = R j * (c : Rat)
theorem FS.fr {D D' : DD} {n : Nat} {R : Nat → Rat} {c : Int} {v : Nat → Int} {lo hi lo2 hi2 : Nat} (h : FS D n R c v) (hn : n ≤ 12) (f : FR lo hi lo2 hi2 D D') (q : (573 ≤ lo ∨ hi ≤ 532 ∨ (534 ≤ lo ∧ hi ≤ 549)) ∧ (573 ≤ lo2 ∨ hi2 ≤ 532 ∨ (534 ≤ lo2 ∧ hi2 ≤ 549))) : FS D' n R c v :=
  ⟨h.1.fr f (by omega), h.2.1, h.2.2.1, fun j hj => ⟨(h.2.2.2 j hj).1.fr f (by omega), (h.2.2.2 j hj).2⟩⟩
theorem cum_bd {n : Nat} {el : Nat → Prop} {R : Nat → Rat} {pl : Nat → Nat} {d : Nat → Int} (hpl : Pl n d pl) (hR : ∀ j, j < n → 0 ≤ R j ∧ R j ≤ 1000) : ∀ p, p ≤ n → cum el R pl p ≤ 1000 * (p : Rat) := by
  intro p
  induction p with
  | zero => intro _; rw [cum_0]; exact Rat.mul_nonneg (by decide) Rat.le_refl
  | succ p ih =>
    intro hp
    have i := ih (by omega)
    have b := hR (pl p) (hpl.1 p hp)
    have e : ((p + 1 : Nat) : Rat) = (p : Rat) + 1 := by rw [Rat.natCast_add]; rfl
    rw [e]
    rcases Classical.em (el (pl p)) with y | y
    · rw [cum_t y]; grind
    · rw [cum_f y]; grind
section FORE1
variable {g : GG} {D D0 : DD} {n : Nat} {r d w : Nat → Int} {pl : Nat → Nat} {R : Nat → Rat} {c : Int} {v : Nat → Int}
theorem isOpen_ok (f : JF n r d w pl) (h0 : JC D n r d w pl) {j : Nat} (hj : j < n) {u now : Int} (hv : Na D (549 + 2 * j) u) : CI g M_Fo_isOpen [vR 530, vR 1, vI j, vI now] D (fun y D' => D' = D ∧ y = if r j ≤ now ∧ now < d j ∧ u ≠ 0 then 1 else 0) := by
  have hn := f.1
  have hjc := h0.2.1 j hj
  refine CI.intro mc_Fo_isOpen (Nat.le_of_ble_eq_true rfl) rfl (s_Fo_isOpen_0 ((joHas_ok h0).mono fun y D2 r2 => ?_))
  obtain ⟨rfl, rfl⟩ := r2
  rw [show (if 0 ≤ (j : Int) ∧ (j : Int) < n then (1 : Int) else 0) = 1 from if_pos (by omega)]
  refine s_Fo_isOpen_5 ⟨fun q => by omega, fun _ => ⟨by omega, ?_⟩⟩
  rw [hjc.1, hjc.2.1]
  refine ⟨fun q => retI ⟨rfl, by rw [if_neg (by omega)]⟩, fun q => ⟨by omega, fun q2 => retI ⟨rfl, by rw [if_neg (by omega)]⟩, fun q2 => ⟨by omega, ?_⟩⟩⟩
  rw [Int.toNat_natCast]
  refine (isZero_ok (zk_left (by omega)) hv).mono fun y D3 r3 => ?_
  obtain ⟨rfl, rfl⟩ := r3
  refine s_Fo_isOpen_37 ⟨fun q3 => retI ⟨rfl, ?_⟩, fun q3 => retI ⟨rfl, ?_⟩⟩
  · rw [if_neg (fun z => ?_)]
    rw [if_neg z.2.2] at q3; omega
  · rw [if_pos ⟨by omega, by omega, fun z => by rw [if_pos z] at q3; omega⟩]
/-- the densest places so far -/
def BD (d : Nat → Int) (pl : Nat → Nat) (el : Nat → Prop) (R : Nat → Rat) (now : Nat) (c : Int) (p : Nat) (dv Ds : Int) : Prop :=
  (dv = 0 ∧ Ds = now ∧ cum el R pl p = 0) ∨ ∃ m, m < p ∧ Ds = d (pl m) ∧ (now : Int) < Ds ∧ (dv : Rat) = cum el R pl (m + 1) * (c : Rat) ∧ 0 < cum el R pl (m + 1) ∧
    ∀ q, q < p → el (pl q) → 0 < R (pl q) → cum el R pl (q + 1) * ((Ds : Rat) - (now : Rat)) ≤ cum el R pl (m + 1) * ((d (pl q) : Rat) - (now : Rat))
theorem fd_end (f : JF n r d w pl) (hR : ∀ j, j < n → 0 ≤ R j) {now : Nat} (dead : ∀ j, j < n → d j ≤ (now : Int) → R j = 0) {dv Ds : Int} (h : BD d pl (fun j => r j ≤ (now : Int)) R now c n dv Ds) (hc : 0 < c) :
    (dv = 0 ∧ Ds = now ∧ Dn n r d now R 0) ∨ ∃ (D' : Nat) (s : Rat), Ds = D' ∧ now < D' ∧ D' ≤ 200 ∧ (∃ j, j < n ∧ d j = D') ∧ 0 < dv ∧ 0 < s ∧ Dn n r d now R s ∧ kn n r d now R D' = s * ((D' : Rat) - (now : Rat)) ∧ (dv : Rat) = kn n r d now R D' * (c : Rat) := by
  have hpl := f.2.2.2
  have kc : ∀ D : Nat, ∃ m, m ≤ n ∧ (∀ q, q < n → (q < m ↔ d (pl q) ≤ (D : Int))) ∧ kn n r d now R D = cum (fun j => r j ≤ (now : Int)) R pl m := fun D => by
    obtain ⟨m, hm, hpre⟩ := pl_pre hpl (D : Int)
    exact ⟨m, hm, hpre, (cum_pre hpl hm hpre).symm⟩
  -- the last open place before m
  have lastp : ∀ m, m ≤ n → cum (fun j => r j ≤ (now : Int)) R pl m = 0 ∨ ∃ q, q < m ∧ r (pl q) ≤ (now : Int) ∧ 0 < R (pl q) ∧ cum (fun j => r j ≤ (now : Int)) R pl (q + 1) = cum (fun j => r j ≤ (now : Int)) R pl m := by
    intro m
    induction m with
    | zero => intro _; exact Or.inl rfl
    | succ m ih =>
      intro hm
      have r0 := hR (pl m) (hpl.1 m hm)
      rcases Classical.em (r (pl m) ≤ (now : Int) ∧ 0 < R (pl m)) with y | y
      · exact Or.inr ⟨m, by omega, y.1, y.2, rfl⟩
      · have e : cum (fun j => r j ≤ (now : Int)) R pl (m + 1) = cum (fun j => r j ≤ (now : Int)) R pl m := by
          rcases Classical.em (r (pl m) ≤ (now : Int)) with z | z
          · rw [cum_t z]
            have : R (pl m) = 0 := by
              have : ¬ 0 < R (pl m) := fun q => y ⟨z, q⟩
              grind
            rw [this, Rat.add_zero]
          · exact cum_f z
        rcases ih (by omega) with i | ⟨q, q1, q2, q3, q4⟩
        · exact Or.inl (by rw [e, i])
        · exact Or.inr ⟨q, by omega, q2, q3, by rw [q4, e]⟩
  rcases h with ⟨a1, a2, a3⟩ | ⟨m, a1, a2, a3, a4, a5, a6⟩
  · refine Or.inl ⟨a1, a2, Rat.le_refl, fun D h1 h2 => ?_, Or.inl rfl⟩
    obtain ⟨m, m1, m2, m3⟩ := kc D
    have := cum_mono (el := fun j => r j ≤ (now : Int)) hpl hR m1 (Nat.le_refl n)
    rw [m3, Rat.zero_mul]
    grind
  · obtain ⟨D', rfl⟩ : ∃ D' : Nat, Ds = D' := ⟨Ds.toNat, by omega⟩
    have hd := f.2.1 (pl m) (hpl.1 m a1)
    have ed : (((D' : Nat) : Int) : Rat) = (D' : Rat) := rfl
    have pos := nat_lt_rat (show now < D' by omega)
    rw [ed] at a6
    have pos' : (0 : Rat) < (D' : Rat) - (now : Rat) := by grind
    -- all with deadlines up to it
    have kd : kn n r d now R D' = cum (fun j => r j ≤ (now : Int)) R pl (m + 1) := by
      obtain ⟨m', m1, m2, m3⟩ := kc D'
      have mm : m + 1 ≤ m' := by
        have := (m2 m a1).mpr (by omega)
        omega
      have mo := cum_mono (el := fun j => r j ≤ (now : Int)) hpl hR mm m1
      rw [m3]
      rcases lastp m' m1 with z | ⟨q, q1, q2, q3, q4⟩
      · rw [z] at mo ⊢; grind
      · have dq := (m2 q (by omega)).mp q1
        have e := a6 q (by omega) q2 q3
        have c1 := cum_nn (el := fun j => r j ≤ (now : Int)) (R := R) hpl hR (show m + 1 ≤ n by omega)
        have dq' : (d (pl q) : Rat) ≤ (D' : Rat) := by rw [← ed]; exact Rat.intCast_le_intCast.mpr dq
        have e2 : cum (fun j => r j ≤ (now : Int)) R pl (m + 1) * ((d (pl q) : Rat) - (now : Rat)) ≤ cum (fun j => r j ≤ (now : Int)) R pl (m + 1) * ((D' : Rat) - (now : Rat)) := Rat.mul_le_mul_of_nonneg_left (by grind) c1
        have e3 := Rat.le_of_mul_le_mul_right (Rat.le_trans e e2) pos'
        rw [q4] at e3
        exact Rat.le_antisymm e3 mo
    have hs : cum (fun j => r j ≤ (now : Int)) R pl (m + 1) / ((D' : Rat) - (now : Rat)) * ((D' : Rat) - (now : Rat)) = cum (fun j => r j ≤ (now : Int)) R pl (m + 1) := Rat.div_mul_cancel (by intro z; rw [z] at pos'; exact absurd pos' Rat.lt_irrefl)
    have sp : 0 < cum (fun j => r j ≤ (now : Int)) R pl (m + 1) / ((D' : Rat) - (now : Rat)) := by
      rcases Rat.le_total (a := cum (fun j => r j ≤ (now : Int)) R pl (m + 1) / ((D' : Rat) - (now : Rat))) (b := 0) with y | y
      · have := Rat.mul_le_mul_of_nonneg_right y (Rat.le_of_lt pos')
        rw [hs, Rat.zero_mul] at this
        grind
      · rcases Rat.le_iff_lt_or_eq.mp y with z | z
        · exact z
        · rw [← z, Rat.zero_mul] at hs
          rw [← hs] at a5
          exact absurd a5 Rat.lt_irrefl
    have dvp : 0 < dv := by
      refine Rat.intCast_pos.mp ?_
      rw [a4]
      exact Rat.mul_pos a5 (Rat.intCast_pos.mpr hc)
    refine Or.inr ⟨D', _, rfl, by omega, by omega, ⟨pl m, hpl.1 m a1, by omega⟩, dvp, sp, ⟨Rat.le_of_lt sp, fun D h1 h2 => ?_, Or.inr ⟨D', by omega, by omega, ?_⟩⟩, ?_, by rw [kd]; exact a4⟩
    · obtain ⟨m', m1, m2, m3⟩ := kc D
      have p2 := nat_lt_rat h1
      rw [m3]
      rcases lastp m' m1 with z | ⟨q, q1, q2, q3, q4⟩
      · rw [z]
        exact Rat.mul_nonneg (Rat.le_of_lt sp) (by grind)
      · have dq := (m2 q (by omega)).mp q1
        have dq' : (d (pl q) : Rat) ≤ (D : Rat) := Rat.intCast_le_intCast.mpr dq
        have e := a6 q (by omega) q2 q3
        rw [q4] at e
        have c1 := Rat.le_of_lt a5
        have e2 : cum (fun j => r j ≤ (now : Int)) R pl (m + 1) * ((d (pl q) : Rat) - (now : Rat)) ≤ cum (fun j => r j ≤ (now : Int)) R pl (m + 1) * ((D : Rat) - (now : Rat)) := Rat.mul_le_mul_of_nonneg_left (by grind) c1
        refine Rat.le_of_mul_le_mul_right ?_ pos'
        refine Rat.le_trans (Rat.le_trans e e2) ?_
        generalize cum (fun j => r j ≤ (now : Int)) R pl (m + 1) / ((D' : Rat) - (now : Rat)) = s at hs
        rw [← hs]
        grind
    · rw [kd]; exact hs.symm
    · rw [kd]; exact hs.symm
end FORE1
