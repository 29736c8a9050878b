/-! Foresight: workOff, its walk -/
/-- the state at a place -/
def WF (n : Nat) (r : Nat → Int) (pl : Nat → Nat) (a now k : Nat) (s : Rat) (R : Nat → Rat) (K dv : Int) (v : Nat → Int) (D0 D : DD) (p i : Nat) (Sv : Int) : Prop :=
  (∀ c, (c < 536 ∨ 542 ≤ c) → (c < 549 ∨ 573 ≤ c) → c ≠ a + 5 → (c < a + 131 ∨ a + 191 ≤ c) → D c = D0 c) ∧
  (Na D 536 Sv ∧ (Sv : Rat) = cum (fun j => r j ≤ (now : Int)) R pl p * (K : Rat)) ∧ Na D 538 (dv * i) ∧ Na D 540 (dv * k) ∧
  (∀ q, q < n → Na D (549 + 2 * pl q) (if q < p ∧ r (pl q) ≤ (now : Int) then 0 else v (pl q))) ∧
  (∀ q, q < n → q < p → r (pl q) ≤ (now : Int) → 0 < R (pl q) → ∃ P Q, Fp D (a + 131 + 5 * pl q) P Q ∧ 0 < Q ∧ P < 2 ^ 130 ∧ Q < 2 ^ 130 ∧ (P : Rat) / (Q : Rat) = (now : Rat) + cum (fun j => r j ≤ (now : Int)) R pl (q + 1) / s) ∧
  (∀ q, q < n → (p ≤ q ∨ ¬ (r (pl q) ≤ (now : Int) ∧ 0 < R (pl q))) → ∀ c, a + 131 + 5 * pl q ≤ c → c < a + 136 + 5 * pl q → D c = D0 c) ∧
  (∀ i' : Nat, i' < i → ∃ q, q < n ∧ D (a + 5) ((now + i' : Nat) : Int) = pl q ∧ cum (fun j => r j ≤ (now : Int)) R pl q ≤ (i' : Rat) * s ∧ (i' : Rat) * s < cum (fun j => r j ≤ (now : Int)) R pl (q + 1)) ∧
  (∀ u : Int, ¬ ((now : Int) ≤ u ∧ u < ((now + i : Nat) : Int)) → D (a + 5) u = D0 (a + 5) u) ∧
  i ≤ k ∧ (cum (fun j => r j ≤ (now : Int)) R pl p ≤ (i : Rat) * s ∨ i = k) ∧ cum (fun j => r j ≤ (now : Int)) R pl p ≤ (k : Rat) * s
/-- what is so behind a stretch -/
def WX (n : Nat) (r : Nat → Int) (pl : Nat → Nat) (a now k : Nat) (s : Rat) (R R' : Nat → Rat) (c aim : Int) (D0 D : DD) : Prop :=
  (∀ c, (c < 532 ∨ (534 ≤ c ∧ c < 536) ∨ 542 ≤ c) → (c < 549 ∨ 573 ≤ c) → c ≠ a + 5 → (c < a + 131 ∨ a + 191 ≤ c) → D c = D0 c) ∧
  (∃ c' v', FS D n R' c' v' ∧ (c' = c ∨ (c' = c * aim ∧ (k : Int) < aim))) ∧
  (∀ q, q < n → r (pl q) ≤ (now : Int) → 0 < R (pl q) → cum (fun j => r j ≤ (now : Int)) R pl (q + 1) ≤ (k : Rat) * s → ∃ P Q, Fp D (a + 131 + 5 * pl q) P Q ∧ 0 < Q ∧ P < 2 ^ 130 ∧ Q < 2 ^ 130 ∧ (P : Rat) / (Q : Rat) = (now : Rat) + cum (fun j => r j ≤ (now : Int)) R pl (q + 1) / s) ∧
  (∀ q, q < n → ¬ (r (pl q) ≤ (now : Int) ∧ 0 < R (pl q) ∧ cum (fun j => r j ≤ (now : Int)) R pl (q + 1) ≤ (k : Rat) * s) → ∀ c, a + 131 + 5 * pl q ≤ c → c < a + 136 + 5 * pl q → D c = D0 c) ∧
  (0 < s → ∀ i' : Nat, i' < k → ∃ q, q < n ∧ D (a + 5) ((now + i' : Nat) : Int) = pl q ∧ cum (fun j => r j ≤ (now : Int)) R pl q ≤ (i' : Rat) * s ∧ (i' : Rat) * s < cum (fun j => r j ≤ (now : Int)) R pl (q + 1)) ∧
  (∀ u : Int, ¬ (0 < s ∧ (now : Int) ≤ u ∧ u < ((now + k : Nat) : Int)) → D (a + 5) u = D0 (a + 5) u)
section FORE4
variable {g : GG} {D D0 : DD} {n a : Nat} {r d w : Nat → Int} {pl : Nat → Nat} {R : Nat → Rat} {c : Int} {v : Nat → Int}
/-- whole times are given to a place -/
theorem workOff_inner (k : zk a = (0, 5, 0)) {now kk i0 : Nat} {s C : Rat} {K dv Sv : Int} {j : Nat} (hj : j < 12) (hnow : now + kk ≤ 200) (hs : (Sv : Rat) = C * (K : Rat)) (hK : 0 < K) (hd : (dv : Rat) = s * (K : Rat)) (hdb : 0 < dv ∧ dv * 201 < BB ^ 32) {Q : Option VV → EE → DD → Prop} {x5 x6 x8 : Int} {Db : DD} (hd0 : Na Db 534 dv) (hs0 : Na Db 536 Sv)
    (hk : ∀ (i : Nat) (D : DD), i0 ≤ i → i ≤ kk → (C ≤ (i : Rat) * s ∨ i = kk) → (∀ c, c ≠ a + 5 → c ≠ 538 → c ≠ 539 → D c = Db c) → Na D 538 (dv * i) → (∀ u : Nat, i0 ≤ u → u < i → D (a + 5) ((now + u : Nat) : Int) = j ∧ (u : Rat) * s < C) → (∀ u : Int, ¬ (((now + i0 : Nat) : Int) ≤ u ∧ u < ((now + i : Nat) : Int)) → D (a + 5) u = Db (a + 5) u) →
      Sg g M_Fo_workOff Q 187 [vR 530, vR 1, vR a, vI now, vI ((now + kk : Nat) : Int), vI x5, vI x6, vI ((now + i : Nat) : Int), vI x8, vI j] [] D) :
    ∀ (m i : Nat) (D : DD), i + m = kk → i0 ≤ i → (∀ c, c ≠ a + 5 → c ≠ 538 → c ≠ 539 → D c = Db c) → Na D 538 (dv * i) → (∀ u : Nat, i0 ≤ u → u < i → D (a + 5) ((now + u : Nat) : Int) = j ∧ (u : Rat) * s < C) → (∀ u : Int, ¬ (((now + i0 : Nat) : Int) ≤ u ∧ u < ((now + i : Nat) : Int)) → D (a + 5) u = Db (a + 5) u) →
      Sg g M_Fo_workOff Q 127 [vR 530, vR 1, vR a, vI now, vI ((now + kk : Nat) : Int), vI x5, vI x6, vI ((now + i : Nat) : Int), vI x8, vI j] [] D := by
  have pa := pr_at k
  have Kq : (0 : Rat) < (K : Rat) := Rat.intCast_pos.mpr hK
  intro m
  induction m with
  | zero =>
    intro i D hm h0 F hmk hw ho
    obtain rfl : i = kk := by omega
    have e := hk i D h0 (Nat.le_refl i) (Or.inr rfl) F hmk hw ho
    exact s_Fo_workOff_127 k ⟨fun _ => e, fun _ => ⟨fun _ => e, fun q => by omega⟩⟩
  | succ m ih =>
    intro i D hm h0 F hmk hw ho
    have hs1 : Na D 536 Sv := hs0.of (F 536 (by omega) (by omega) (by omega)) (F 537 (by omega) (by omega) (by omega))
    have hd1 : Na D 534 dv := hd0.of (F 534 (by omega) (by omega) (by omega)) (F 535 (by omega) (by omega) (by omega))
    refine s_Fo_workOff_127 k ⟨fun q => by omega, fun _ => ⟨fun q => by omega, fun _ => ⟨fun q => by omega, fun _ => (order_ok (a := 538) (b := 536) zf_538 zf_536 hmk hs1).mono fun y D2 r2 => ?_⟩⟩⟩
    obtain ⟨rfl, rfl⟩ := r2
    have cmp : dv * (i : Int) < Sv ↔ (i : Rat) * s < C := by
      rw [← Rat.intCast_lt_intCast, Rat.intCast_mul, hs, hd, show (((i : Nat) : Int) : Rat) = (i : Rat) from rfl, show s * (K : Rat) * (i : Rat) = (i : Rat) * s * (K : Rat) by grind]
      exact Rat.mul_lt_mul_right Kq
    refine s_Fo_workOff_158 k ⟨fun q => hk i D2 h0 (by omega) (Or.inl ?_) F hmk hw ho, fun q => ⟨by omega, fun D3 e3 => ?_⟩⟩
    · refine Rat.not_lt.mp fun z => ?_
      have := cmp.mpr z
      unfold scmp at q
      rw [if_pos this] at q
      omega
    · have lt : (i : Rat) * s < C := by
        refine cmp.mp ?_
        unfold scmp at q
        split at q
        · assumption
        · split at q <;> omega
      have o3 : ∀ c, c ≠ a + 5 → D3 c = D2 c := fun c hc => by rw [e3, zw_off hc]
      have hm3 : Na D3 538 (dv * i) := hmk.of (o3 538 (by omega)) (o3 539 (by omega))
      have hd3 : Na D3 534 dv := hd1.of (o3 534 (by omega)) (o3 535 (by omega))
      have e1 : dv * ((i + 1 : Nat) : Int) = dv * i + dv := by rw [Int.natCast_add, Int.mul_add, Int.natCast_one, Int.mul_one]
      have b1 : dv * ((i + 1 : Nat) : Int) ≤ dv * 201 := Int.mul_le_mul_of_nonneg_left (by omega) (by omega)
      refine (add_ok (a := 538) (b := 534) zf_538 zf_534 (by omega) hm3 hd3 (by omega)).mono fun D4 r4 => s_Fo_workOff_181 k ⟨by unfold R32; omega, ?_⟩
      rw [show ((now + i : Nat) : Int) + 1 = ((now + (i + 1) : Nat) : Int) by omega]
      have a5 : ∀ u : Int, D4 (a + 5) u = D3 (a + 5) u := fun u => by rw [r4.2 (a + 5) (by omega) (by omega)]
      refine ih (i + 1) D4 (by omega) (by omega) (fun c c1 c2 c3 => ?_) (by rw [e1]; exact r4.1) (fun u u1 u2 => ?_) (fun u hu => ?_)
      · rw [r4.2 c (by omega) (by omega), o3 c c1]; exact F c c1 c2 c3
      · rw [a5, e3]
        rcases (show u = i ∨ u < i by omega) with z | z
        · rw [z, zw_eq]; exact ⟨rfl, lt⟩
        · rw [zw_ne (Or.inr (by omega))]; exact hw u u1 z
      · rw [a5, e3, zw_ne (Or.inr (by omega))]; exact ho u (by omega)
end FORE4
