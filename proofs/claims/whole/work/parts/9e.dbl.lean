/-! doubles: no NaN -/
theorem vn {x : UInt64} : vf_n64 x ↔ Jvm.FP.Core.val64 x ≠ .nan := Jvm.Free.Fl.val64_no
/-- a datum that is no NaN and not below 0 -/
def Pz (x : Jvm.FP.Core.Datum) : Prop := x = .inf false ∨ ∃ c q, x = .fin false c q
/-- finite and not 0 -/
def Pp (x : Jvm.FP.Core.Datum) : Prop := ∃ c q, x = .fin false c q ∧ c ≠ 0
theorem Pz.nn {x : UInt64} (h : Pz (Jvm.FP.Core.val64 x)) : vf_n64 x := vn.mpr fun z => by
  rcases h with h | ⟨c, q, h⟩ <;> rw [h] at z <;> cases z
theorem rr_pz {A B : Nat} {e : Int} : Pz (Jvm.FP.Core.roundRatio Jvm.FP.Core.b64 false A B e) := by
  rcases Jvm.FP.Core.roundRatio_cases Jvm.FP.Core.b64 false A B e with ⟨c, q, h⟩ | h
  · exact Or.inr ⟨c, q, h⟩
  · exact Or.inl h
theorem i2d_pp {l : Int} (h : 1 ≤ l ∧ l ≤ 200) : Pp (Jvm.FP.Core.val64 (zdu (zi2d l))) := by
  unfold zi2d
  rw [zdu_of, show Jvm.FP.i2d (Int32.ofInt l) = Jvm.FP.Core.i2d (Int32.ofInt l) from rfl, Jvm.FP.Core.val64_i2d, i32_ti (by unfold R32; omega)]
  obtain ⟨c, q, e, u⟩ := Jvm.FP.Core.round_exact Jvm.FP.Core.good_b64 false (c := l.natAbs) (q := 0) (Nat.lt_of_le_of_lt (show l.natAbs ≤ 200 by omega) (by decide)) (by decide) (by decide)
  refine ⟨c, q, ?_, fun z => ?_⟩
  · unfold Jvm.FP.Core.ofInt
    rw [decide_eq_false (by omega)]
    exact e
  · subst z
    unfold Jvm.FP.Core.inUnits at u
    rw [Nat.zero_mul] at u
    have := Nat.mul_pos (show 0 < l.natAbs by omega) (Nat.two_pow_pos ((0 : Int) - Jvm.FP.Core.b64.qmin).toNat)
    omega
theorem l2d_fin {l : Int} (h : 0 ≤ l ∧ l ≤ 12000) : ∃ c q, Jvm.FP.Core.val64 (zdu (zl2d l)) = .fin false c q ∧ (0 < l → c ≠ 0) := by
  unfold zl2d
  rw [zdu_of, show Jvm.FP.l2d (Int64.ofInt l) = Jvm.FP.Core.l2d (Int64.ofInt l) from rfl, Jvm.FP.Core.val64_l2d, i64_ti (by unfold R64; omega)]
  obtain ⟨c, q, e, u⟩ := Jvm.FP.Core.round_exact Jvm.FP.Core.good_b64 false (c := l.natAbs) (q := 0) (Nat.lt_of_le_of_lt (show l.natAbs ≤ 12000 by omega) (by decide)) (by decide) (by decide)
  refine ⟨c, q, ?_, fun p z => ?_⟩
  · unfold Jvm.FP.Core.ofInt
    rw [decide_eq_false (by omega)]
    exact e
  · subst z
    unfold Jvm.FP.Core.inUnits at u
    rw [Nat.zero_mul] at u
    have := Nat.mul_pos (show 0 < l.natAbs by omega) (Nat.two_pow_pos ((0 : Int) - Jvm.FP.Core.b64.qmin).toNat)
    omega
/-- a speed -/
theorem spd_pz {a b : Int} (ha : 0 ≤ a ∧ a ≤ 12000) (hb : 1 ≤ b ∧ b ≤ 12000) : Pz (Jvm.FP.Core.val64 (Jvm.FP.ddiv (zdu (zl2d a)) (zdu (zl2d b)))) := by
  obtain ⟨c, q, e, _⟩ := l2d_fin ha
  obtain ⟨c', q', e', p⟩ := l2d_fin (l := b) (by omega)
  rw [show Jvm.FP.ddiv (zdu (zl2d a)) (zdu (zl2d b)) = Jvm.FP.Core.ddiv (zdu (zl2d a)) (zdu (zl2d b)) from rfl, Jvm.FP.Core.val64_ddiv, e, e']
  show Pz (if c' = 0 then _ else _)
  rw [if_neg (p (by omega))]
  exact rr_pz
/-- the cube -/
theorem cube_pz {s : Int} (h : Pz (Jvm.FP.Core.val64 (zdu s))) : vf_n64 (Jvm.FP.dmul (zdu s) (zdu s)) ∧ Pz (Jvm.FP.Core.val64 (Jvm.FP.dmul (zdu (zdmul s s)) (zdu s))) := by
  have e1 : Jvm.FP.Core.val64 (Jvm.FP.dmul (zdu s) (zdu s)) = Jvm.FP.Core.round Jvm.FP.Core.b64 (Jvm.FP.Core.exactProduct (Jvm.FP.Core.val64 (zdu s)) (Jvm.FP.Core.val64 (zdu s))) := Jvm.FP.Core.val64_dmul _ _
  have e2 : Jvm.FP.Core.val64 (Jvm.FP.dmul (zdu (zdmul s s)) (zdu s)) = Jvm.FP.Core.round Jvm.FP.Core.b64 (Jvm.FP.Core.exactProduct (Jvm.FP.Core.val64 (Jvm.FP.dmul (zdu s) (zdu s))) (Jvm.FP.Core.val64 (zdu s))) := by
    rw [show zdu (zdmul s s) = Jvm.FP.dmul (zdu s) (zdu s) from zdu_of _]
    exact Jvm.FP.Core.val64_dmul _ _
  rw [e1] at e2
  rcases h with h | ⟨c, q, h⟩
  · rw [h] at e1 e2
    refine ⟨Pz.nn (Or.inl (by rw [e1]; rfl)), Or.inl (by rw [e2]; rfl)⟩
  · rw [h] at e1 e2
    have m : Jvm.FP.Core.round Jvm.FP.Core.b64 (Jvm.FP.Core.exactProduct (.fin false c q) (.fin false c q)) = Jvm.FP.Core.roundRatio Jvm.FP.Core.b64 false (c * c) 1 (q + q) := rfl
    rw [m] at e1 e2
    refine ⟨Pz.nn (by rw [e1]; exact rr_pz), ?_⟩
    rw [e2]
    rcases Jvm.FP.Core.roundRatio_cases Jvm.FP.Core.b64 false (c * c) 1 (q + q) with ⟨c', q', r⟩ | r
    · rw [r]
      exact rr_pz
    · rw [r]
      have c0 : c ≠ 0 := fun z => by
        subst z
        have : Jvm.FP.Core.roundRatio Jvm.FP.Core.b64 false (0 * 0) 1 (q + q) = .fin false 0 Jvm.FP.Core.b64.qmin := rfl
        rw [this] at r
        cases r
      show Pz (Jvm.FP.Core.round _ (if c = 0 then _ else _))
      rw [if_neg c0]
      exact Or.inl rfl
theorem mul_pz {l x : Int} (hl : Pp (Jvm.FP.Core.val64 (zdu l))) (hx : Pz (Jvm.FP.Core.val64 (zdu x))) : Pz (Jvm.FP.Core.val64 (Jvm.FP.dmul (zdu l) (zdu x))) := by
  have e1 : Jvm.FP.Core.val64 (Jvm.FP.dmul (zdu l) (zdu x)) = Jvm.FP.Core.round Jvm.FP.Core.b64 (Jvm.FP.Core.exactProduct (Jvm.FP.Core.val64 (zdu l)) (Jvm.FP.Core.val64 (zdu x))) := Jvm.FP.Core.val64_dmul _ _
  obtain ⟨c, q, e, c0⟩ := hl
  rw [e1, e]
  rcases hx with h | ⟨c', q', h⟩
  · rw [h]
    show Pz (Jvm.FP.Core.round _ (if c = 0 then _ else _))
    rw [if_neg c0]
    exact Or.inl rfl
  · rw [h]; exact rr_pz
theorem add_pz {x y : Int} (hx : Pz (Jvm.FP.Core.val64 (zdu x))) (hy : Pz (Jvm.FP.Core.val64 (zdu y))) : Pz (Jvm.FP.Core.val64 (Jvm.FP.dadd (zdu x) (zdu y))) := by
  have e1 : Jvm.FP.Core.val64 (Jvm.FP.dadd (zdu x) (zdu y)) = Jvm.FP.Core.round Jvm.FP.Core.b64 (Jvm.FP.Core.exactSum (Jvm.FP.Core.val64 (zdu x)) (Jvm.FP.Core.val64 (zdu y))) := Jvm.FP.Core.val64_dadd _ _
  rw [e1]
  rcases hx with h | ⟨c, q, h⟩
  · rw [h]
    rcases hy with h' | ⟨c', q', h'⟩
    · rw [h']; exact Or.inl rfl
    · rw [h']; exact Or.inl rfl
  · rw [h]
    rcases hy with h' | ⟨c', q', h'⟩
    · rw [h']; exact Or.inl rfl
    · rw [h']
      have sg : Jvm.FP.Core.sumSign false false (Jvm.FP.Core.sumUnits false c q false c' q' (min q q')) = false := by
        unfold Jvm.FP.Core.sumSign
        split
        · rfl
        · refine decide_eq_false fun z => ?_
          unfold Jvm.FP.Core.sumUnits Jvm.FP.Core.signed at z
          simp only [Bool.false_eq_true, if_false] at z
          omega
      show Pz (Jvm.FP.Core.roundRatio Jvm.FP.Core.b64 (Jvm.FP.Core.sumSign false false _) _ 1 _)
      rw [sg]
      exact rr_pz
theorem zero_pz : Pz (Jvm.FP.Core.val64 (zdu 0)) := Or.inr ⟨0, _, Jvm.FP.Core.val64_zero⟩
theorem under_pos : ∀ k : Fin 201, k.val ≠ 0 → zdcmp .l (zl2d (k.val : Int)) 0 = 1 := by decide +kernel
