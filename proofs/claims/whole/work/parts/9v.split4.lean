/-! split: the class, put together -/
def FS0 (D D' : DD) : Prop := ∀ c, c ≠ 573 → (c < 391 ∨ (457 ≤ c ∧ c < 574) ∨ 703 ≤ c) → D' c = D c
def updU (U : Nat → Nat) (k u : Nat) : Nat → Nat := fun i => if i = k then u else U i
/-- what holds behind the first groups -/
def SG (D0 : DD) (n lv : Nat) (rt ct w : Nat → Int) (U : Nat → Nat) (k : Nat) (D : DD) : Prop :=
  FS0 D0 D ∧ (∀ i : Nat, i < k → UPL lv rt (sdk (D0 458) (D0 459) i) (U i)) ∧
  (∀ j : Nat, j < n → D0 461 j < k → SJ D lv rt w (sdk (D0 458) (D0 459) (D0 461 j)) (U (D0 461 j).toNat) j) ∧
  ∃ P Q : Int, Fp D 578 P Q ∧ 0 ≤ P ∧ P ≤ k * (10000 ^ k * 2 ^ 43) ∧ 0 < Q ∧ Q ≤ 10000 ^ k ∧ (P : Rat) / (Q : Rat) = su (fun i : Nat => (D0 459 i : Rat) * cper lv rt ct (sdk (D0 458) (D0 459) i) (U i)) k
section SPLIT4
variable {g : GG} {D D' D0 D1 : DD} {n lv : Nat} {r d w rt ct : Nat → Int} {pl : Nat → Nat} {x : Nat → Rat} {y : Rat} {u u' : Nat}
theorem p10k {k : Nat} (h : k ≤ 12) : (k : Int) * (10000 ^ k * 2 ^ 43) ≤ 2 ^ 300 ∧ (10000 : Int) ^ k ≤ 2 ^ 200 := by
  have : ∀ k : Fin 13, ((k.val : Nat) : Int) * (10000 ^ k.val * 2 ^ 43) ≤ 2 ^ 300 ∧ (10000 : Int) ^ k.val ≤ 2 ^ 200 := by decide +kernel
  exact this ⟨k, by omega⟩
theorem add_q {P Q a v : Int} {S t : Rat} (hq : 0 < Q) (hv : 0 < v) (h : (P : Rat) / (Q : Rat) = S) (h2 : (a : Rat) / (v : Rat) = t) : ((P * v + Q * a : Int) : Rat) / ((Q * v : Int) : Rat) = S + t := by
  have q0 : (0 : Rat) < (Q : Rat) := Rat.intCast_pos.mpr hq
  have v0 : (0 : Rat) < (v : Rat) := Rat.intCast_pos.mpr hv
  rw [← h, ← h2, Rat.intCast_add, Rat.intCast_mul, Rat.intCast_mul, Rat.intCast_mul]
  generalize (P : Rat) = p
  generalize (Q : Rat) = q at *
  generalize (a : Rat) = b
  generalize (v : Rat) = c at *
  have n1 : q ≠ 0 := by grind
  have n2 : c ≠ 0 := by grind
  grind
theorem SG.next {U : Nat → Nat} {k G : Nat} (f : JF n r d w pl) (c : Cert n r d w (gsD D0) (gjD D0) G (D0 458) (D0 459)) (h : SG D0 n lv rt ct w U k D) (hk : k < G) (hG : G ≤ 12) (hu : UPL lv rt (sdk (D0 458) (D0 459) k) u)
    {P Q a v : Int} (p1 : 0 ≤ P) (p2 : P ≤ k * (10000 ^ k * 2 ^ 43)) (q1 : 0 < Q) (q2 : Q ≤ 10000 ^ k) (pq : (P : Rat) / (Q : Rat) = su (fun i : Nat => (D0 459 i : Rat) * cper lv rt ct (sdk (D0 458) (D0 459) i) (U i)) k)
    (ha : 0 ≤ a ∧ a ≤ 2 ^ 43) (hv : 1 ≤ v ∧ v ≤ 10000) (hav : (a : Rat) / (v : Rat) = (D0 459 k : Rat) * cper lv rt ct (sdk (D0 458) (D0 459) k) u) (hf : Fp D' 578 (P * v + Q * a) (Q * v)) (gi : GI D n lv rt w (sdk (D0 458) (D0 459) k) u k D') :
    SG D0 n lv rt ct w (updU U k u) (k + 1) D' := by
  obtain ⟨h1, h2, h3, _⟩ := h
  have ug : ∀ i, i < k → updU U k u i = U i := fun i hi => if_neg (by omega)
  have uk : updU U k u k = u := if_pos rfl
  have e461 : D 461 = D0 461 := h1 461 (by omega) (by omega)
  refine ⟨fun c c1 c2 => by rw [gi.1 c (by omega) (by omega) (by omega)]; exact h1 c c1 c2, fun i hi => ?_, fun j hj hgj => ?_, P * v + Q * a, Q * v, hf, ?_, ?_, Int.mul_pos q1 (by omega), ?_, ?_⟩
  · rcases (show i = k ∨ i < k by omega) with z | z
    · subst z; rw [uk]; exact hu
    · rw [ug i z]; exact h2 i z
  · have g0 : 0 ≤ D0 461 j ∧ D0 461 j < G := c.gj0 j hj
    have z := gi.2 j hj
    rw [e461] at z
    rcases (show D0 461 j = k ∨ D0 461 j < k by omega) with y | y
    · have s := z.1 y
      rw [y, show ((k : Int)).toNat = k by omega, uk]
      exact s
    · rw [ug _ (by omega)]
      have o := z.2 (by omega)
      exact (h3 j hj y).of o.1 o.2.1 o.2.2
  · exact Int.add_nonneg (Int.mul_nonneg p1 (by omega)) (Int.mul_nonneg (by omega) ha.1)
  · have pk : (10000 : Int) ^ (k + 1) = 10000 ^ k * 10000 := Int.pow_succ ..
    have p0 : (0 : Int) < 10000 ^ k := Int.pow_pos (by decide)
    have m1 : P * v ≤ k * (10000 ^ k * 2 ^ 43) * 10000 := Int.mul_le_mul p2 hv.2 (by omega) (Int.mul_nonneg (by omega) (Int.mul_nonneg (by omega) (by decide)))
    have m2 : Q * a ≤ 10000 ^ k * 2 ^ 43 := Int.mul_le_mul q2 ha.2 ha.1 (by omega)
    have e1 : ((k + 1 : Nat) : Int) * (10000 ^ (k + 1) * 2 ^ 43) = k * (10000 ^ k * 2 ^ 43) * 10000 + 10000 ^ k * 2 ^ 43 * 10000 := by
      rw [pk, Int.natCast_add]
      generalize (10000 : Int) ^ k = t
      grind
    rw [e1]
    have m3 : 0 ≤ (10000 : Int) ^ k * 2 ^ 43 := Int.mul_nonneg (by omega) (by decide)
    omega
  · have pk : (10000 : Int) ^ (k + 1) = 10000 ^ k * 10000 := Int.pow_succ ..
    rw [pk]
    exact Int.mul_le_mul q2 hv.2 (by omega) (Int.le_of_lt (Int.pow_pos (by decide)))
  · have s : su (fun i : Nat => (D0 459 i : Rat) * cper lv rt ct (sdk (D0 458) (D0 459) i) (updU U k u i)) (k + 1) = su (fun i : Nat => (D0 459 i : Rat) * cper lv rt ct (sdk (D0 458) (D0 459) i) (U i)) k + (D0 459 k : Rat) * cper lv rt ct (sdk (D0 458) (D0 459) k) u := by
      show su _ k + (D0 459 k : Rat) * cper lv rt ct (sdk (D0 458) (D0 459) k) (updU U k u k) = _
      rw [su_congr (f := fun i : Nat => (D0 459 i : Rat) * cper lv rt ct (sdk (D0 458) (D0 459) i) (updU U k u i)) (h := fun i : Nat => (D0 459 i : Rat) * cper lv rt ct (sdk (D0 458) (D0 459) i) (U i)) fun i hi => by rw [ug i hi], uk]
    rw [s]
    exact add_q q1 (by omega) pq hav
theorem spWorkOut_ok (f : JF n r d w pl) (h0 : JC D0 n r d w pl) (lf : LF lv rt ct) (lc : LC D0 lv rt ct) {G : Nat} (hG : D0 457 0 = G) (hG2 : G ≤ 12) (c : Cert n r d w (gsD D0) (gjD D0) G (D0 458) (D0 459)) :
    CI g M_Sp_workOut [vR 573, vR 1, vR 6, vR 457, vR 391] D0 (fun v D' => FS0 D0 D' ∧ ((v = 0 ∧ D' 573 0 = 0 ∧ ∃ k : Nat, k < G ∧ ∀ i, i < lv → (rt i : Rat) < sdk (D0 458) (D0 459) k) ∨
      (v = 1 ∧ D' 573 0 = 1 ∧ ∃ U : Nat → Nat, (∀ k : Nat, k < G → UPL lv rt (sdk (D0 458) (D0 459) k) (U k)) ∧ (∀ j : Nat, j < n → SJ D' lv rt w (sdk (D0 458) (D0 459) (D0 461 j)) (U (D0 461 j).toNat) j) ∧
        ∃ z, Fq D' 578 z ∧ bnd z ∧ z = su (fun k : Nat => (D0 459 k : Rat) * cper lv rt ct (sdk (D0 458) (D0 459) k) (U k)) G))) := by
  have last : ∀ (U : Nat → Nat) (D : DD) (z5 z6 : VV), SG D0 n lv rt ct w U G D → Sg g M_Sp_workOut (rI (fun v D' => FS0 D0 D' ∧ ((v = 0 ∧ D' 573 0 = 0 ∧ ∃ k : Nat, k < G ∧ ∀ i, i < lv → (rt i : Rat) < sdk (D0 458) (D0 459) k) ∨
      (v = 1 ∧ D' 573 0 = 1 ∧ ∃ U : Nat → Nat, (∀ k : Nat, k < G → UPL lv rt (sdk (D0 458) (D0 459) k) (U k)) ∧ (∀ j : Nat, j < n → SJ D' lv rt w (sdk (D0 458) (D0 459) (D0 461 j)) (U (D0 461 j).toNat) j) ∧
        ∃ z, Fq D' 578 z ∧ bnd z ∧ z = su (fun k : Nat => (D0 459 k : Rat) * cper lv rt ct (sdk (D0 458) (D0 459) k) (U k)) G)))) 80 [vR 573, vR 1, vR 6, vR 457, vR 391, z5, z6] [] D := fun U D z5 z6 h => by
    obtain ⟨h1, h2, h3, P, Q, hp, p1, p2, q1, q2, pq⟩ := h
    have bk := p10k hG2
    have b30 : (2 : Int) ^ 300 < BB ^ 30 := by decide +kernel
    have b31 : (2 : Int) ^ 200 < BB ^ 30 := by decide +kernel
    refine s_Sp_workOut_80 ((lower_ok (a := 578) (by decide +kernel) hp q1 (by omega) (by omega)).mono fun D2 r2 => s_Sp_workOut_89 fun D3 e3 => retI ?_)
    obtain ⟨r1, r2⟩ := r2
    have o3 : ∀ c, c ≠ 573 → D3 c = D2 c := fun c hc => by rw [e3, zw_off hc]
    have le := low_le p1 q1
    have b1 : (2 : Int) ^ 300 < 2 ^ 475 := by decide
    have b2 : (2 : Int) ^ 200 < 2 ^ 475 := by decide
    refine ⟨fun c c1 c2 => by rw [o3 c c1, r2 c (by omega) (by omega)]; exact h1 c c1 c2, Or.inr ⟨rfl, by rw [e3, zw_eq], U, h2, fun j hj => ?_, _, r1.cells fun c c1 c2 => o3 c (by omega), ⟨by omega, by omega⟩, pq⟩⟩
    have hn := f.1
    exact (h3 j hj (c.gj0 j hj).2).of (by rw [o3 574 (by omega), r2 574 (by omega) (by omega)]) (by rw [o3 575 (by omega), r2 575 (by omega) (by omega)]) fun c c1 c2 => by rw [o3 c (by omega), r2 c (by omega) (by omega)]
  have loop : ∀ (m k : Nat) (U : Nat → Nat) (D : DD) (z6 : VV), k + m = G → SG D0 n lv rt ct w U k D → D 573 0 = 0 → Sg g M_Sp_workOut (rI (fun v D' => FS0 D0 D' ∧ ((v = 0 ∧ D' 573 0 = 0 ∧ ∃ k : Nat, k < G ∧ ∀ i, i < lv → (rt i : Rat) < sdk (D0 458) (D0 459) k) ∨
      (v = 1 ∧ D' 573 0 = 1 ∧ ∃ U : Nat → Nat, (∀ k : Nat, k < G → UPL lv rt (sdk (D0 458) (D0 459) k) (U k)) ∧ (∀ j : Nat, j < n → SJ D' lv rt w (sdk (D0 458) (D0 459) (D0 461 j)) (U (D0 461 j).toNat) j) ∧
        ∃ z, Fq D' 578 z ∧ bnd z ∧ z = su (fun k : Nat => (D0 459 k : Rat) * cper lv rt ct (sdk (D0 458) (D0 459) k) (U k)) G)))) 17 [vR 573, vR 1, vR 6, vR 457, vR 391, vI k, z6] [] D := by
    intro m
    induction m with
    | zero =>
      intro k U D z6 hm h hz
      obtain rfl : k = G := by omega
      refine s_Sp_workOut_17 ⟨fun _ => last U D _ _ h, fun q => (hasGroup_ok (G := k) (by rw [h.1 457 (by omega) (by omega)]; exact hG)).mono fun v D2 r2 => ?_⟩
      obtain ⟨rfl, rfl⟩ := r2
      exact s_Sp_workOut_30 ⟨fun _ => last U D2 _ _ h, fun q => absurd (if_neg (by omega)) q⟩
    | succ m ih =>
      intro k U D z6 hm h hz
      have e457 : D 457 0 = G := by rw [h.1 457 (by omega) (by omega)]; exact hG
      have e458 : D 458 = D0 458 := h.1 458 (by omega) (by omega)
      have e459 : D 459 = D0 459 := h.1 459 (by omega) (by omega)
      refine s_Sp_workOut_17 ⟨fun q => by omega, fun q => (hasGroup_ok (G := G) e457).mono fun v D2 r2 => ?_⟩
      obtain ⟨rfl, rfl⟩ := r2
      rw [show (if (0 : Int) ≤ (k : Int) ∧ (k : Int) < G then (1 : Int) else 0) = 1 from if_pos (by omega)]
      have Wb := c.Wb f.1 f.2.2.1 (k := k) (by omega) (by omega)
      have Tb := c.Tb (k := k) (by omega) (by omega)
      have lc2 : LC D2 lv rt ct := lc.kp fun c c1 c2 => h.1 c (by omega) (by omega)
      have jc2 : JC D2 n r d w pl := h0.kp fun c c1 c2 => h.1 c (by omega) (by omega)
      refine s_Sp_workOut_30 ⟨fun q => by omega, fun _ => ⟨⟨by omega, by omega⟩, ?_⟩⟩
      rw [e458, e459]
      refine (leastFor_ok lf lc2 (by omega) Tb).mono fun v D3 r3 => ?_
      obtain ⟨rfl, r3⟩ := r3
      rcases r3 with ⟨u, rfl, hu⟩ | ⟨rfl, no⟩
      · have hu' : UPL lv rt (sdk (D0 458) (D0 459) k) u := hu
        obtain ⟨P, Q, hp, p1, p2, q1, q2, pq⟩ := h.2.2.2
        have bk := p10k (k := k) (by omega)
        refine s_Sp_workOut_51 ⟨fun _ => ?_, fun q => by omega⟩
        refine (spGroup_ok (W := D0 458 k) (T := D0 459 k) f jc2 lf lc2 e457 (show k < G by omega) hG2 (by rw [e458]) (by rw [e459]) Wb Tb rfl hu hp ⟨p1, by omega⟩ ⟨q1, by omega⟩).mono fun D4 r4 => s_Sp_workOut_74 ⟨by unfold R32; omega, ?_⟩
        obtain ⟨⟨a, v, ha, hv, hav, hf⟩, gi⟩ := r4
        refine ih (k + 1) _ D4 _ (by omega) (h.next f c (by omega) hG2 hu' p1 p2 q1 q2 pq ha hv hav hf gi) ?_
        rw [gi.1 573 (by omega) (by omega) (by omega)]; exact hz
      · exact s_Sp_workOut_51 ⟨fun q => absurd rfl q, fun _ => retI ⟨h.1, Or.inl ⟨rfl, hz, k, by omega, no⟩⟩⟩
  refine CI.intro mc_Sp_workOut (Nat.le_of_ble_eq_true rfl) rfl (s_Sp_workOut_0 fun D1 e1 => ?_)
  have b128 : (2 : Int) ^ 128 = 340282366920938463463374607431768211456 := by decide
  refine (frSet_ok (a := 578) (by decide +kernel) (p := 0) (q := 1) (by omega) (by omega) (by omega)).mono fun D2 r2 => s_Sp_workOut_14 (loop G 0 (fun _ => 0) D2 _ (by omega) ⟨fun c c1 c2 => ?_, fun i hi => by omega, fun j hj q => ?_, 0, 1, ?_⟩ ?_)
  · rw [r2.2 c (by omega) (by omega), e1, zw_off c1]
  · have g0 : 0 ≤ D0 461 j := (c.gj0 j hj).1
    omega
  · have q := r2.1
    have e : ((0 : Int) : Rat) / ((1 : Int) : Rat) = 0 := by rw [show ((0 : Int) : Rat) = 0 from rfl, Rat.div_def, Rat.zero_mul]
    rw [e] at q
    refine ⟨q, by omega, by decide, by omega, by decide, e⟩
  · rw [r2.2 573 (by omega) (by omega), e1, zw_eq]
end SPLIT4
