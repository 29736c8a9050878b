/-! split: the model, a job -/
/-- a sum of k terms stays small -/
def SB (k : Nat) (S : Rat) : Prop := ∃ C N : Int, 0 < C ∧ C ≤ (2 ^ 27) ^ k ∧ 0 ≤ N ∧ N ≤ k * 2 ^ 38 * C ∧ S * (C : Rat) = (N : Rat)
def TB (t : Rat) : Prop := ∃ C N : Int, 0 < C ∧ C ≤ 2 ^ 27 ∧ 0 ≤ N ∧ N ≤ 2 ^ 38 * C ∧ t * (C : Rat) = (N : Rat)
def MSJ (D : DD) (lv : Nat) (rt w : Nat → Int) (y : Rat) (u j : Nat) : Prop := D 731 j = lowr rt y u ∧ D 732 j = u ∧ Mq D (84 + j) (slw lv rt (w j : Rat) y u) ∧ Mq D (96 + j) (fst2 lv rt (w j : Rat) y u)
section SPLIT5
variable {g : GG} {D D' D0 D1 : DD} {n lv : Nat} {r d w rt ct : Nat → Int} {pl : Nat → Nat} {x : Nat → Rat} {y S t : Rat} {u u' : Nat}
theorem SB.add {k : Nat} (h : SB k S) (q : TB t) : SB (k + 1) (S + t) := by
  obtain ⟨C, N, c1, c2, n1, n2, e⟩ := h
  obtain ⟨C', N', c1', c2', n1', n2', e'⟩ := q
  refine ⟨C * C', N * C' + N' * C, Int.mul_pos c1 c1', ?_, Int.add_nonneg (Int.mul_nonneg n1 (by omega)) (Int.mul_nonneg n1' (by omega)), ?_, ?_⟩
  · rw [Int.pow_succ]
    exact Int.mul_le_mul c2 c2' (by omega) (Int.le_of_lt (Int.pow_pos (by decide)))
  · have m1 : N * C' ≤ k * 2 ^ 38 * C * C' := Int.mul_le_mul_of_nonneg_right n2 (by omega)
    have m2 : N' * C ≤ 2 ^ 38 * C' * C := Int.mul_le_mul_of_nonneg_right n2' (by omega)
    have e1 : ((k + 1 : Nat) : Int) * 2 ^ 38 * (C * C') = k * 2 ^ 38 * C * C' + 2 ^ 38 * C' * C := by
      rw [Int.natCast_add]
      clear m1 m2 n2 n2' e e'
      generalize (2 : Int) ^ 38 = z
      grind
    rw [e1]
    omega
  · rw [Rat.intCast_add, Rat.intCast_mul, Rat.intCast_mul, Rat.intCast_mul, ← e, ← e']
    grind
theorem SB.bd {k : Nat} (h : SB k S) (hk : k ≤ 24) : S.num < MB ^ 49 ∧ ((S.den : Nat) : Int) < MB ^ 49 := by
  obtain ⟨C, N, c1, c2, n1, n2, e⟩ := h
  have b := bd_rat c1 n1 e
  have p : ∀ k : Fin 25, ((2 : Int) ^ 27) ^ k.val < MB ^ 49 ∧ ((k.val : Nat) : Int) * 2 ^ 38 * (2 ^ 27) ^ k.val < MB ^ 49 := by decide +kernel
  have q := p ⟨k, by omega⟩
  have m : (k : Int) * 2 ^ 38 * C ≤ k * 2 ^ 38 * (2 ^ 27) ^ k := Int.mul_le_mul_of_nonneg_left c2 (Int.mul_nonneg (by omega) (by decide))
  have q1 : ((2 : Int) ^ 27) ^ k < MB ^ 49 := q.1
  have q2 : (k : Int) * 2 ^ 38 * (2 ^ 27) ^ k < MB ^ 49 := q.2
  omega
theorem TB.mk2 {a b : Int} (hb : 0 < b) (hb2 : b ≤ 2 ^ 27) (ha : 0 ≤ a) (ha2 : a ≤ 2 ^ 38 * b) (e : t = (a : Rat) / (b : Rat)) : TB t := ⟨b, a, hb, hb2, ha, ha2, by
  rw [e, Rat.div_mul_cancel]
  have : (0 : Rat) < (b : Rat) := Rat.intCast_pos.mpr hb
  grind⟩
theorem TB.bd (h : TB t) : t.num < MB ^ 49 ∧ ((t.den : Nat) : Int) < MB ^ 49 := by
  obtain ⟨C, N, c1, c2, n1, n2, e⟩ := h
  have b := bd_rat c1 n1 e
  have p : (2 : Int) ^ 38 * 2 ^ 27 < MB ^ 49 ∧ (2 : Int) ^ 27 < MB ^ 49 := by decide +kernel
  have m : (2 : Int) ^ 38 * C ≤ 2 ^ 38 * 2 ^ 27 := Int.mul_le_mul_of_nonneg_left c2 (by decide)
  omega
theorem mpay_ok {f c : Int} (hf : 0 ≤ f ∧ f < 110) (ht : Mq D f t) (hs : Mq D 112 S) (hc : 0 ≤ c ∧ c ≤ 1000000) (b0 : t.num < 2 ^ 475 ∧ ((t.den : Nat) : Int) < 2 ^ 475) (b1 : S.num < MB ^ 49 ∧ ((S.den : Nat) : Int) < MB ^ 49) : CV g M_Mo_pay [vR 708, vI f, vI c] D (fun D' => Mq D' 112 (S + t * (c : Rat)) ∧ FM 222 226 244 253 D D') := by
  have m49 := MB49
  have tn := ht.nn
  have tn2 : 0 ≤ t.num := Rat.num_nonneg.mpr tn
  have mm : t.num * c ≤ 2 ^ 475 * 1000000 := Int.mul_le_mul (by omega) hc.2 hc.1 (by decide)
  have mb : (2 : Int) ^ 475 * 1000000 < MB ^ 49 ∧ MB ^ 49 < MB ^ 99 ∧ MB ^ 49 < MB ^ 100 := by decide +kernel
  have dp : (0 : Int) < ((t.den : Nat) : Int) := by have := t.den_pos; omega
  have sp : (0 : Int) < ((S.den : Nat) : Int) := by have := S.den_pos; omega
  refine CV.intro mc_Mo_pay (Nat.le_of_ble_eq_true rfl) rfl (s_Mo_pay_0 ((mkeep_ok (f := f) (h := 111) (by omega) (by omega) (by omega) ht).mono fun D1 r1 => s_Mo_pay_7 ?_))
  obtain ⟨a1, a2⟩ := r1
  refine (mtimes_ok (n := 222) (by omega) a1.1 hc.1 (by omega)).mono fun D2 r2 => s_Mo_pay_15 ?_
  have k2 : Mp D2 111 (t.num * c) ((t.den : Nat) : Int) := ⟨r2.1, a1.2.f1 r2.2 (by omega)⟩
  have nn : 0 ≤ t.num * c := Int.mul_nonneg tn2 hc.1
  have lw := low_le nn dp
  have e3 : ((t.num * c : Int) : Rat) / (((t.den : Nat) : Int) : Rat) = t * (c : Rat) := by
    rw [Rat.intCast_mul]
    have e := rat_nd (x := t)
    rw [Rat.div_def] at e ⊢
    have h2 : t * (c : Rat) = (t.num : Rat) * ((((t.den : Nat) : Int) : Rat))⁻¹ * (c : Rat) := by rw [← e]
    rw [h2]
    grind
  refine (mreduce_ok (f := 111) (by omega) k2 dp (by omega)).mono fun D3 r3 => s_Mo_pay_21 ?_
  obtain ⟨c1, c2⟩ := r3
  rw [e3] at c1 lw
  have f2 := r2.2
  have s3 : Mq D3 112 S := ((hs.fm a2 (by omega)).fm f2 (by omega)).fm c2 (by omega)
  have tp : (0 : Int) < (((t * (c : Rat)).den : Nat) : Int) := by have := (t * (c : Rat)).den_pos; omega
  refine (msumUp_ok s3 c1 sp tp b1.1 b1.2 (by omega) (by omega)).mono fun D4 r4 => s_Mo_pay_25 (retV ⟨?_, ?_⟩)
  · have := r4.1
    rwa [← rat_nd, ← rat_nd] at this
  · exact (a2.mono (fun m _ _ => by omega)).tr ((FM.f1 f2 (by omega)).tr ((c2.mono (fun m _ _ => by omega)).tr (r4.2.mono (fun m _ _ => by omega))))
/-- the parts of a job, in whole numbers -/
theorem parts (lf : LF lv rt ct) (hu : UPL lv rt y u) {p q W2 : Int} (hp : 0 < p ∧ p ≤ 12000) (hq : 0 < q ∧ q ≤ 200) (hw : 0 < W2 ∧ W2 ≤ 1000) (hy : y = (p : Rat) / (q : Rat)) :
    (rt u * q = p ∧ lowr rt y u = u ∧ slw lv rt (W2 : Rat) y u = ((W2 * q : Int) : Rat) / (p : Rat) ∧ fst2 lv rt (W2 : Rat) y u = ((0 : Int) : Rat) / ((1 : Int) : Rat)) ∨
    (p < rt u * q ∧ lowr rt y u = (u : Int) - 1 ∧ 0 ≤ lz lv rt ((u : Int) - 1) ∧ lz lv rt ((u : Int) - 1) < rt u ∧ 0 ≤ lz lv rt ((u : Int) - 1) * q ∧ lz lv rt ((u : Int) - 1) * q < p ∧
      slw lv rt (W2 : Rat) y u = ((W2 * (rt u * q - p) : Int) : Rat) / ((p * (rt u - lz lv rt ((u : Int) - 1)) : Int) : Rat) ∧ fst2 lv rt (W2 : Rat) y u = ((W2 * (p - lz lv rt ((u : Int) - 1) * q) : Int) : Rat) / ((p * (rt u - lz lv rt ((u : Int) - 1)) : Int) : Rat)) := by
  have t0 : (0 : Rat) < (q : Rat) := Rat.intCast_pos.mpr hq.1
  have w0 : (0 : Rat) < (p : Rat) := Rat.intCast_pos.mpr hp.1
  have y0 : 0 < y := by
    rw [hy, Rat.lt_div_iff t0, Rat.zero_mul]
    exact w0
  by_cases ye : y = (rt u : Rat)
  · refine Or.inl ⟨?_, ?_, ?_, ?_⟩
    · have e : (p : Rat) = (rt u : Rat) * (q : Rat) := by rw [← ye, hy]; exact (Rat.div_mul_cancel (by grind)).symm
      rw [← Rat.intCast_mul] at e
      exact (Rat.intCast_inj.mp e).symm
    · unfold lowr; rw [if_pos ye]
    · unfold slw
      rw [if_pos ye, hy, Rat.intCast_mul]
      generalize (q : Rat) = a at *
      generalize (p : Rat) = b at *
      clear hu
      grind
    · unfold fst2
      rw [if_pos ye, show ((0 : Int) : Rat) = 0 from rfl, Rat.div_def, Rat.zero_mul]
  · have l := hu.lo y0
    have hh := hu.hi ye
    have lb := lf.rb ((u : Int) - 1)
    have ap0 : lz lv rt ((u : Int) - 1) < rt u := Rat.intCast_lt_intCast.mp (by grind)
    have ap1 := Rat.intCast_lt_intCast.mpr ap0
    refine Or.inr ⟨?_, ?_, lb.1, ap0, Int.mul_nonneg lb.1 (by omega), ?_, ?_, ?_⟩
    · rw [hy, Rat.div_lt_iff t0, ← Rat.intCast_mul] at hh
      exact Rat.intCast_lt_intCast.mp hh
    · unfold lowr; rw [if_neg ye]
    · rw [hy, Rat.lt_div_iff t0, ← Rat.intCast_mul] at l
      exact Rat.intCast_lt_intCast.mp l
    · unfold slw
      rw [if_neg ye, hy, Rat.intCast_mul, Rat.intCast_mul, Rat.intCast_sub, Rat.intCast_sub, Rat.intCast_mul]
      exact (slw_frac w0 t0 (by grind)).symm
    · unfold fst2
      rw [if_neg ye, hy, Rat.intCast_mul, Rat.intCast_mul, Rat.intCast_sub, Rat.intCast_sub, Rat.intCast_mul]
      exact (fst_frac w0 t0 (by grind)).symm
/-- both terms are small -/
theorem parts_tb (lf : LF lv rt ct) (hu : UPL lv rt y u) {p q W2 c : Int} (hp : 0 < p ∧ p ≤ 12000) (hq : 0 < q ∧ q ≤ 200) (hw : 0 < W2 ∧ W2 ≤ 1000) (hy : y = (p : Rat) / (q : Rat)) (hc : 0 ≤ c ∧ c ≤ 1000000) :
    TB (slw lv rt (W2 : Rat) y u * (c : Rat)) ∧ TB (fst2 lv rt (W2 : Rat) y u * (c : Rat)) ∧ bnd (slw lv rt (W2 : Rat) y u) ∧ bnd (fst2 lv rt (W2 : Rat) y u) := by
  have rb := (lf.2.1 u hu.1).1
  have lb := lf.rb ((u : Int) - 1)
  have b27 : (2 : Int) ^ 27 = 134217728 := by decide
  have b38 : (2 : Int) ^ 38 = 274877906944 := by decide
  have b475 : (274877906944 * 134217728 : Int) < 2 ^ 475 := by decide
  have key : ∀ (a b : Int) (z : Rat), z = (a : Rat) / (b : Rat) → 0 ≤ a → 0 < b → b ≤ 120000000 → a ≤ 200000 * b → TB (z * (c : Rat)) ∧ bnd z := fun a b z e ha hb hb2 ha2 => by
    have b0 : (0 : Rat) < (b : Rat) := Rat.intCast_pos.mpr hb
    have ac : a * c ≤ 200000 * b * 1000000 := Int.mul_le_mul ha2 hc.2 hc.1 (by omega)
    refine ⟨TB.mk2 (a := a * c) (b := b) hb (by omega) (Int.mul_nonneg ha hc.1) (by rw [b38]; omega) ?_, ?_⟩
    · rw [e, Rat.intCast_mul, Rat.div_def, Rat.div_def]
      grind
    · rw [e]
      have l := low_le ha hb
      exact ⟨by omega, by omega⟩
  have z1 : fst2 lv rt (W2 : Rat) y u = ((0 : Int) : Rat) / ((1 : Int) : Rat) → TB (fst2 lv rt (W2 : Rat) y u * (c : Rat)) ∧ bnd (fst2 lv rt (W2 : Rat) y u) := fun e => key 0 1 _ e (by omega) (by omega) (by omega) (by omega)
  rcases parts lf hu hp hq hw hy with ⟨e1, _, e2, e3⟩ | ⟨e1, _, l1, l2, l3, l4, e2, e3⟩
  · have m1 : 0 ≤ W2 * q := Int.mul_nonneg (by omega) (by omega)
    have m2 : W2 * q ≤ 1000 * 200 := Int.mul_le_mul hw.2 hq.2 (by omega) (by decide)
    have k1 := key _ _ _ e2 m1 hp.1 (by omega) (by omega)
    exact ⟨k1.1, (z1 e3).1, k1.2, (z1 e3).2⟩
  · have h3 : rt u * q ≤ 10000 * 200 := Int.mul_le_mul rb.2 hq.2 (by omega) (by decide)
    have ee : (rt u - lz lv rt ((u : Int) - 1)) * q = rt u * q - lz lv rt ((u : Int) - 1) * q := Int.sub_mul ..
    have apq : (rt u - lz lv rt ((u : Int) - 1)) * q ≤ (rt u - lz lv rt ((u : Int) - 1)) * 200 := Int.mul_le_mul_of_nonneg_left hq.2 (by omega)
    have pa : 1 * (rt u - lz lv rt ((u : Int) - 1)) ≤ p * (rt u - lz lv rt ((u : Int) - 1)) := Int.mul_le_mul_of_nonneg_right (by omega) (by omega)
    have pb : p * (rt u - lz lv rt ((u : Int) - 1)) ≤ 12000 * 10000 := Int.mul_le_mul hp.2 (by omega) (by omega) (by decide)
    generalize lz lv rt ((u : Int) - 1) * q = loq at *
    generalize rt u * q = hiq at *
    have p1 : 0 ≤ W2 * (hiq - p) := Int.mul_nonneg (by omega) (by omega)
    have p2 : W2 * (hiq - p) ≤ 1000 * (hiq - p) := Int.mul_le_mul_of_nonneg_right hw.2 (by omega)
    have p3 : 0 ≤ W2 * (p - loq) := Int.mul_nonneg (by omega) (by omega)
    have p4 : W2 * (p - loq) ≤ 1000 * (p - loq) := Int.mul_le_mul_of_nonneg_right hw.2 (by omega)
    have k1 := key _ _ _ e2 p1 (by omega) (by omega) (by omega)
    have k2 := key _ _ _ e3 p3 (by omega) (by omega) (by omega)
    exact ⟨k1.1, k2.1, k1.2, k2.2⟩
end SPLIT5
