/-! the model's AHEAD: findBest -/
theorem mn_zero {D : DD} {n : Int} : Mn (zw D 710 n 0) n 0 := by
  have e : zw D 710 n 0 710 n = 0 := zw_eq _ _ _ _
  refine ⟨by rw [e]; omega, by rw [e]; exact fun j h1 h2 => by omega, Or.inl e, by rw [e, Ds_0]⟩
/-- what is left of each job, over one number -/
def MFS (D : DD) (n : Nat) (R : Nat → Rat) (c : Int) (v : Nat → Int) : Prop := Mn D 242 c ∧ 0 < c ∧ c < 2 ^ 200 ∧ ∀ j : Nat, j < n → Mn D (230 + j) (v j) ∧ (v j : Rat) = R j * (c : Rat)
def kv (r d v : Nat → Int) (t e : Int) (n : Nat) : Int := si (fun i => if r i ≤ t ∧ d i ≤ e then v i else 0) n
/-- the best deadline so far -/
def FB (n : Nat) (r d : Nat → Int) (t : Nat) (R : Nat → Rat) (c : Int) (e : Nat) (len bv : Int) : Prop :=
  (len = 0 ∧ bv = 0 ∧ ∀ D : Nat, t < D → D < e → kn n r d t R D = 0) ∨ ∃ E : Nat, t < E ∧ E < e ∧ Hid (∃ j, j < n ∧ d j = E) ∧ len = (E : Int) - t ∧ 0 < bv ∧ (bv : Rat) = kn n r d t R E * (c : Rat) ∧ ∀ D : Nat, t < D → D < e → kn n r d t R D * ((E : Rat) - (t : Rat)) ≤ kn n r d t R E * ((D : Rat) - (t : Rat))
section MAH2
variable {g : GG} {D D0 : DD} {n : Nat} {r d w v : Nat → Int} {pl : Nat → Nat} {R : Nat → Rat} {c : Int} {t e : Nat}
theorem kv_rat (h : ∀ j, j < n → (v j : Rat) = R j * (c : Rat)) : (kv r d v t e n : Rat) = kn n r d t R e * (c : Rat) := by
  unfold kv kn
  rw [si_sp, ← sp_mul]
  exact sp_congr (fun _ _ => Iff.rfl) (fun j hj _ => h j hj)
theorem kv_bd (f : JF n r d w pl) (hR : ∀ j, j < n → 0 ≤ R j ∧ R j ≤ 1000) (hc : 0 < c) (h : ∀ j, j < n → (v j : Rat) = R j * (c : Rat)) {m : Nat} (hm : m ≤ n) : 0 ≤ kv r d v t e m ∧ kv r d v t e m ≤ 12000 * c := by
  have vb : ∀ j, j < n → 0 ≤ v j ∧ v j ≤ 1000 * c := fun j hj => int_bd (h j hj) (hR j hj).1 (B := 1000) (by
    have e3 : ((1000 : Int) : Rat) = 1000 := rfl
    rw [e3]; exact (hR j hj).2) hc
  have b := si_sum_bd (f := fun i => if r i ≤ (t : Int) ∧ d i ≤ (e : Int) then v i else 0) (B := 1000 * c) (n := m) fun i hi => by
    have := vb i (by omega)
    show 0 ≤ (if r i ≤ (t : Int) ∧ d i ≤ (e : Int) then v i else 0) ∧ (if r i ≤ (t : Int) ∧ d i ≤ (e : Int) then v i else 0) ≤ 1000 * c
    split <;> omega
  have hn := f.1
  have m1 : 1000 * c * (m : Int) ≤ 1000 * c * 12 := Int.mul_le_mul_of_nonneg_left (by omega) (by omega)
  have m2 : 1000 * c * 12 = 12000 * c := by omega
  unfold kv
  omega
theorem kn_same (h : ∀ j, j < n → r j ≤ (t : Int) → d j ≠ ((e + 1 : Nat) : Int)) : kn n r d t R ((e + 1 : Nat) : Int) = kn n r d t R (e : Int) :=
  sp_congr (fun j hj => ⟨fun q => ⟨q.1, by have := h j hj q.1; omega⟩, fun q => ⟨q.1, by omega⟩⟩) (fun _ _ _ => rfl)
theorem fb_end (hR : ∀ j, j < n → 0 ≤ R j) {len bv : Int} (h : FB n r d t R c 201 len bv) (hc : 0 < c) :
    (len = 0 ∧ bv = 0 ∧ Dn n r d t R 0) ∨ ∃ (E : Nat) (s : Rat), len = (E : Int) - t ∧ t < E ∧ E ≤ 200 ∧ Hid (∃ j, j < n ∧ d j = E) ∧ 0 < bv ∧ 0 < s ∧ Dn n r d t R s ∧ kn n r d t R E = s * ((E : Rat) - (t : Rat)) ∧ (bv : Rat) = kn n r d t R E * (c : Rat) := by
  rcases h with ⟨a1, a2, a3⟩ | ⟨E, a1, a2, a3, a4, a5, a6, a7⟩
  · exact Or.inl ⟨a1, a2, Rat.le_refl, fun D h1 h2 => by rw [a3 D h1 (by omega), Rat.zero_mul]; exact Rat.le_refl, Or.inl rfl⟩
  · have p := nat_lt_rat a1
    have pos : (0 : Rat) < (E : Rat) - (t : Rat) := by grind
    have hs : kn n r d t R E / ((E : Rat) - (t : Rat)) * ((E : Rat) - (t : Rat)) = kn n r d t R E := Rat.div_mul_cancel (by intro z; rw [z] at pos; exact absurd pos Rat.lt_irrefl)
    have cq : (0 : Rat) < (c : Rat) := Rat.intCast_pos.mpr hc
    have kp : 0 < kn n r d t R E := by
      have b : (0 : Rat) < (bv : Rat) := Rat.intCast_pos.mpr a5
      rw [a6] at b
      have k0 : 0 ≤ kn n r d t R E := sp_nn fun i hi _ => hR i hi
      rcases Rat.le_iff_lt_or_eq.mp k0 with z | z
      · exact z
      · rw [← z, Rat.zero_mul] at b; exact absurd b Rat.lt_irrefl
    have sp : 0 < kn n r d t R E / ((E : Rat) - (t : Rat)) := by
      rcases Rat.le_total (a := kn n r d t R E / ((E : Rat) - (t : Rat))) (b := 0) with y | y
      · have := Rat.mul_le_mul_of_nonneg_right y (Rat.le_of_lt pos)
        rw [hs, Rat.zero_mul] at this
        grind
      · rcases Rat.le_iff_lt_or_eq.mp y with z | z
        · exact z
        · rw [← z, Rat.zero_mul] at hs
          rw [← hs] at kp
          exact absurd kp Rat.lt_irrefl
    refine Or.inr ⟨E, _, a4, a1, by omega, a3, a5, sp, ⟨Rat.le_of_lt sp, fun D h1 h2 => ?_, Or.inr ⟨E, a1, by omega, hs.symm⟩⟩, hs.symm, a6⟩
    have e := a7 D h1 (by omega)
    refine Rat.le_of_mul_le_mul_right (c := (E : Rat) - (t : Rat)) ?_ pos
    refine Rat.le_trans e ?_
    generalize kn n r d t R E / ((E : Rat) - (t : Rat)) = s at hs
    rw [← hs]
    grind
/-- nothing new at a deadline -/
theorem FB.skip {len bv : Int} (h : FB n r d t R c (e + 1) len bv) (hR : ∀ j, j < n → 0 ≤ R j) (hte : t < e + 1) (dead : ∀ j, j < n → d j ≤ (t : Int) → R j = 0) (q : (∀ j, j < n → r j ≤ (t : Int) → d j ≠ ((e + 1 : Nat) : Int)) ∨ kn n r d t R ((e + 1 : Nat) : Int) = 0) : FB n r d t R c (e + 1 + 1) len bv := by
  have k0 : ∀ D : Int, 0 ≤ kn n r d t R D := fun D => sp_nn fun i hi _ => hR i hi
  have kt : kn n r d t R (t : Int) = 0 := by
    have z := sp_congr (P := fun j => r j ≤ (t : Int) ∧ d j ≤ (t : Int)) (f := R) (P' := fun j => r j ≤ (t : Int) ∧ d j ≤ (t : Int)) (h := fun _ => 0) (n := n) (fun _ _ => Iff.rfl) (fun j hj z => dead j hj z.2)
    rw [sp_c, Rat.zero_mul] at z
    exact z
  rcases h with ⟨a1, a2, a3⟩ | ⟨E, a1, a2, a3, a4, a5, a6, a7⟩
  · refine Or.inl ⟨a1, a2, fun D h1 h2 => ?_⟩
    rcases (show D < e + 1 ∨ D = e + 1 by omega) with y | y
    · exact a3 D h1 y
    · rw [y]
      rcases q with q | q
      · rw [kn_same q]
        rcases (show t < e ∨ e = t by omega) with z | z
        · exact a3 e z (by omega)
        · rw [z]; exact kt
      · exact q
  · refine Or.inr ⟨E, a1, by omega, a3, a4, a5, a6, fun D h1 h2 => ?_⟩
    rcases (show D < e + 1 ∨ D = e + 1 by omega) with y | y
    · exact a7 D h1 y
    · rw [y]
      have p := nat_lt_rat a1
      have p2 := nat_lt_rat hte
      rcases q with q | q
      · rw [kn_same q]
        have b := a7 e (by omega) (by omega)
        have m := Rat.mul_le_mul_of_nonneg_left (show ((e : Nat) : Rat) - (t : Rat) ≤ ((e + 1 : Nat) : Rat) - (t : Rat) by rw [Rat.natCast_add]; grind) (k0 E)
        exact Rat.le_trans b m
      · rw [q, Rat.zero_mul]
        exact Rat.mul_nonneg (k0 E) (by grind)
theorem MB200 : (2 : Int) ^ 260 < MB ^ 99 ∧ MB ^ 99 < MB ^ 100 ∧ (2 : Int) ^ 40 * 2 ^ 200 < 2 ^ 260 := by decide +kernel
theorem pow200' {c k : Int} (hc : 0 < c ∧ c < 2 ^ 200) (hk : 0 ≤ k ∧ k ≤ 2 ^ 40) : 0 ≤ k * c ∧ k * c < 2 ^ 260 := by
  have e : k * c ≤ 2 ^ 40 * c := Int.mul_le_mul_of_nonneg_right hk.2 (by omega)
  have e2 := MB200
  have e3 : (2 : Int) ^ 40 * c ≤ 2 ^ 40 * 2 ^ 200 := Int.mul_le_mul_of_nonneg_left (by omega) (by decide)
  exact ⟨Int.mul_nonneg hk.1 (by omega), by omega⟩
theorem findBest_sum (f : JF n r d w pl) (h0 : JM D0 n r d w) (hR : ∀ j, j < n → 0 ≤ R j ∧ R j ≤ 1000) (hv : MFS D0 n R c v) {len : Int} {Q : Option VV → EE → DD → Prop}
    (hk : ∀ D, F1 246 D0 D → Mn D 246 (kv r d v t e n) → ((∀ j, j < n → r j ≤ (t : Int) → d j ≠ (e : Int)) → Sg g M_Mo_findBest Q 209 [vR 708, vI t, vI len, vI e, vI 0, vI n] [] D) ∧ (kv r d v t e n = 0 → ∀ z4, Sg g M_Mo_findBest Q 209 [vR 708, vI t, vI len, vI e, z4, vI n] [] D) ∧
      (0 < kv r d v t e n → Hid (∃ j, j < n ∧ d j = e) → CV g M_Mo_copy [vR 708, vI 246, vI 244] D (fun D' => ∀ z4, Sg g M_Mo_findBest Q 150 [vR 708, vI t, vI len, vI e, z4, vI n] [] D'))) :
    ∀ (m j : Nat) (s : Int) (D : DD), j + m = n → F1 246 D0 D → Mn D 246 (kv r d v t e j) → (0 ≤ s ∧ s ≤ 1) → (s = 0 → ∀ i, i < j → r i ≤ (t : Int) → d i ≠ (e : Int)) → (s = 1 → Hid (∃ i, i < n ∧ d i = e)) → Sg g M_Mo_findBest Q 37 [vR 708, vI t, vI len, vI e, vI s, vI j] [] D := by
  have hn := f.1
  have mb := MB200
  intro m
  induction m with
  | zero =>
    intro j s D hm F hq hs s0 s1
    obtain rfl : j = n := by omega
    have e3 := h0.1
    rw [← F.1 708 (by omega) (by omega)] at e3
    have k := hk D F hq
    have qp := hq.pos
    have qn := hq.nn
    have q710 := hq.1
    refine s_Mo_findBest_37 ⟨fun _ => ⟨fun z => ?_, fun z => ⟨fun z2 => ?_, fun z2 => ?_⟩⟩, fun z => by omega⟩
    · rw [z]; exact k.1 (s0 z)
    · exact k.2.1 (by
        rcases (show kv r d v t e j = 0 ∨ 0 < kv r d v t e j by omega) with y | y
        · exact y
        · have := qp.mpr y; omega) _
    · exact (k.2.2 (qp.mp (by omega)) (s1 (by omega))).mono fun D' h' => h' _
  | succ m ih =>
    intro j s D hm F hq hs s0 s1
    have hj : j < n := by omega
    have jm : JM D n r d w := h0.of (by rw [F.1 708 (by omega) (by omega)]) fun c c1 c2 => F.1 c (by omega) (by omega)
    obtain ⟨e1, e2, e3⟩ := jm.2 j hj
    have h3 := jm.1
    have kb := kv_bd (t := t) (e := e) f hR hv.2.1 (fun j hj => (hv.2.2.2 j hj).2) (show j + 1 ≤ n by omega)
    have p2 := pow200' (k := 12000) ⟨hv.2.1, hv.2.2.1⟩ (by omega)
    have ke : kv r d v t e (j + 1) = kv r d v t e j + (if r j ≤ (t : Int) ∧ d j ≤ (e : Int) then v j else 0) := rfl
    have go : ∀ z (s' : Int), (0 ≤ s' ∧ s' ≤ 1) → (s' = 0 → ∀ i, i < j + 1 → r i ≤ (t : Int) → d i ≠ (e : Int)) → (s' = 1 → Hid (∃ i, i < n ∧ d i = e)) → Sg g M_Mo_findBest Q 78 [vR 708, vI t, vI len, vI e, z, vI j] [vI s'] D := by
      intro z s' q1 q2 q3
      refine s_Mo_findBest_78 ⟨by omega, ?_⟩
      rw [e1, e2]
      refine ⟨fun q => s_Mo_findBest_118 ⟨by unfold R32; omega, ih (j + 1) s' D (by omega) F (by rw [ke, if_neg (by omega), Int.add_zero]; exact hq) q1 q2 q3⟩, fun q => ⟨by omega, fun q4 => s_Mo_findBest_118 ⟨by unfold R32; omega, ih (j + 1) s' D (by omega) F (by rw [ke, if_neg (by omega), Int.add_zero]; exact hq) q1 q2 q3⟩, fun q4 => ⟨by unfold R32; omega, ?_⟩⟩⟩
      rw [if_pos (by omega)] at ke
      have vm := (hv.2.2.2 j hj).1.f1 F (by omega)
      refine (madd_ok (a := 246) (b := 230 + (j : Int)) (t := 246) (by omega) (by omega) (by omega) (by omega) hq vm (by omega)).mono fun D2 r2 => s_Mo_findBest_118 ⟨by unfold R32; omega, ih (j + 1) s' D2 (by omega) (F.tr r2.2) (by rw [ke]; exact r2.1) q1 q2 q3⟩
    refine s_Mo_findBest_37 ⟨fun q => by omega, fun _ => ⟨fun q => s_Mo_findBest_73 (go _ 1 (by omega) (fun z => by omega) (fun _ => s1 (by omega))), fun q => ⟨by omega, ?_⟩⟩⟩
    rw [e1, e2]
    refine ⟨fun q2 => s_Mo_findBest_77 (go _ 0 (by omega) (fun _ i hi ri => ?_) (fun z => by omega)), fun q2 => ⟨by omega, fun q3 => s_Mo_findBest_77 (go _ 0 (by omega) (fun _ i hi ri => ?_) (fun z => by omega)), fun q3 => s_Mo_findBest_73 (go _ 1 (by omega) (fun z => by omega) (fun _ => ⟨j, hj, q2⟩))⟩⟩
    · rcases (show i = j ∨ i < j by omega) with y | y
      · rw [y]; exact q2
      · exact s0 q i y ri
    · rcases (show i = j ∨ i < j by omega) with y | y
      · rw [y] at ri; omega
      · exact s0 q i y ri
theorem findBest_loop (f : JF n r d w pl) (h0 : JM D0 n r d w) (hR : ∀ j, j < n → 0 ≤ R j ∧ R j ≤ 1000) (hv : MFS D0 n R c v) (dead : ∀ j, j < n → d j ≤ (t : Int) → R j = 0) (ht : t < 200) : ∀ (m e : Nat) (len bv : Int) (D : DD) (z4 z5 : VV), e + m = 200 → t < e + 1 → FM 243 247 243 247 D0 D → Mn D 243 bv → FB n r d t R c (e + 1) len bv →
    Sg g M_Mo_findBest (rI (fun y D' => FM 243 247 243 247 D0 D' ∧ ∃ bv, Mn D' 243 bv ∧ FB n r d t R c 201 y bv)) 15 [vR 708, vI t, vI len, vI ((e + 1 : Nat) : Int), z4, z5] [] D := by
  have hn := f.1
  have mb := MB200
  have hc := hv.2.1
  have cq : (0 : Rat) < (c : Rat) := Rat.intCast_pos.mpr hc
  have c200 : 0 < c ∧ c < 2 ^ 200 := ⟨hc, hv.2.2.1⟩
  have hR0 : ∀ j, j < n → 0 ≤ R j := fun j hj => (hR j hj).1
  have p1 := pow200' (k := 12000) c200 (by omega)
  have p2 := pow200' (k := 12000 * 200) c200 (by omega)
  have p2e : 12000 * c * 200 = 12000 * 200 * c := by ac_rfl
  intro m
  induction m with
  | zero =>
    intro e len bv D z4 z5 hm hte F hb fb
    obtain rfl : e = 200 := by omega
    exact s_Mo_findBest_15 ⟨fun _ => retI ⟨F, bv, hb, fb⟩, fun q => by omega⟩
  | succ m ih =>
    intro e len bv D z4 z5 hm hte F hb fb
    have hv' : ∀ D', FM 243 247 243 247 D0 D' → MFS D' n R c v := fun D' F' => ⟨hv.1.fm F' (by omega), hc, hv.2.2.1, fun j hj => ⟨(hv.2.2.2 j hj).1.fm F' (by omega), (hv.2.2.2 j hj).2⟩⟩
    refine s_Mo_findBest_15 ⟨fun q => by omega, fun _ => fun D2 e2 => ?_⟩
    have F2 : FM 243 247 243 247 D0 D2 := F.tr (by rw [e2]; exact FM.f1 F1.w0 (by omega))
    have b2 : Mn D2 243 bv := hb.f1 (n := 246) (by rw [e2]; exact F1.w0) (by omega)
    have n2 : Mn D2 246 0 := by rw [e2]; exact mn_zero
    have jm2 : JM D2 n r d w := h0.of (by rw [F2.1 708 (by omega) (by omega)]) fun c c1 c2 => F2.1 c (by omega) (by omega)
    have kr := kv_rat (r := r) (d := d) (t := t) (e := e + 1) (fun j hj => (hv.2.2.2 j hj).2)
    have kb := kv_bd (t := t) (e := e + 1) f hR hc (fun j hj => (hv.2.2.2 j hj).2) (Nat.le_refl n)
    have lb : 0 ≤ len ∧ len ≤ 200 := by
      rcases fb with ⟨a1, _⟩ | ⟨E, a1, a2, a3, a4, _⟩
      · omega
      · omega
    have bvb : 0 ≤ bv ∧ bv ≤ 12000 * c := by
      rcases fb with ⟨_, a1, _⟩ | ⟨E, a1, a2, a3, a4, a5, a6, _⟩
      · omega
      · have k := kn_bd (d := d) f (t := t) hR (D := (E : Int))
        exact int_bd a6 k.1 k.2 hc
    -- nothing new
    have same : ∀ D3 z4 z5, FM 243 247 243 247 D0 D3 → Mn D3 243 bv → FB n r d t R c (e + 1 + 1) len bv → Sg g M_Mo_findBest (rI (fun y D' => FM 243 247 243 247 D0 D' ∧ ∃ bv, Mn D' 243 bv ∧ FB n r d t R c 201 y bv)) 209 [vR 708, vI t, vI len, vI ((e + 1 : Nat) : Int), z4, z5] [] D3 := fun D3 z4 z5 F3 b3 fb3 => s_Mo_findBest_209 ⟨by unfold R32; omega, by
      rw [show ((e + 1 : Nat) : Int) + 1 = ((e + 1 + 1 : Nat) : Int) by omega]
      exact ih (e + 1) len bv D3 _ _ (by omega) (by omega) F3 b3 fb3⟩
    refine findBest_sum (e := e + 1) f jm2 hR (hv' D2 F2) (fun D3 F3 q3 => ⟨fun z => ?_, fun z z4 => ?_, fun z hex => ?_⟩) n 0 0 D2 (by omega) FM.rf n2 (by omega) (fun _ i hi => by omega) (fun z => by omega)
    · exact same D3 _ _ (F2.tr (FM.f1 F3 (by omega))) (b2.f1 F3 (by omega)) (fb.skip hR0 hte dead (Or.inl z))
    · refine same D3 _ _ (F2.tr (FM.f1 F3 (by omega))) (b2.f1 F3 (by omega)) (fb.skip hR0 hte dead (Or.inr ?_))
      rw [z] at kr
      rcases Rat.mul_eq_zero.mp kr.symm with y | y
      · exact y
      · rw [y] at cq; exact absurd cq Rat.lt_irrefl
    · have F3' : FM 243 247 243 247 D0 D3 := F2.tr (FM.f1 F3 (by omega))
      have b3 := b2.f1 F3 (by omega)
      have m1 : kv r d v t (e + 1 : Nat) n * len ≤ 12000 * c * 200 := Int.mul_le_mul kb.2 lb.2 lb.1 (by omega)
      refine (mcopy_ok (a := 246) (b := 244) (by omega) (by omega) (by omega) q3).mono fun D4 r4 => fun z4 => s_Mo_findBest_150 ((mtimes_ok (n := 244) (by omega) r4.1 lb.1 (by omega)).mono fun D5 r5 => s_Mo_findBest_158 ?_)
      have b5 := (b3.f1 r4.2 (by omega)).f1 r5.2 (by omega)
      have m2 : bv * (((e + 1 : Nat) : Int) - t) ≤ 12000 * c * 200 := Int.mul_le_mul bvb.2 (by omega) (by omega) (by omega)
      refine (mcopy_ok (a := 243) (b := 245) (by omega) (by omega) (by omega) b5).mono fun D6 r6 => s_Mo_findBest_168 ⟨by unfold R32; omega, (mtimes_ok (n := 245) (by omega) r6.1 (by omega) (by omega)).mono fun D7 r7 => ?_⟩
      have F7 : FM 243 247 243 247 D0 D7 := (F3'.tr ((FM.f1 r4.2 (by omega)).tr (FM.f1 r5.2 (by omega)))).tr ((FM.f1 r6.2 (by omega)).tr (FM.f1 r7.2 (by omega)))
      have b7 := (b5.f1 r6.2 (by omega)).f1 r7.2 (by omega)
      have q7 : Mn D7 246 (kv r d v t (e + 1 : Nat) n) := (((q3.f1 r4.2 (by omega)).f1 r5.2 (by omega)).f1 r6.2 (by omega)).f1 r7.2 (by omega)
      have k7 : Mn D7 244 (kv r d v t (e + 1 : Nat) n * len) := (r5.1.f1 r6.2 (by omega)).f1 r7.2 (by omega)
      have pe := nat_lt_rat hte
      have kp : 0 < kn n r d t R ((e + 1 : Nat) : Int) := by
        have b : (0 : Rat) < (kv r d v t (e + 1 : Nat) n : Rat) := Rat.intCast_pos.mpr z
        rw [kr] at b
        have k0 : 0 ≤ kn n r d t R ((e + 1 : Nat) : Int) := sp_nn fun i hi _ => hR0 i hi
        rcases Rat.le_iff_lt_or_eq.mp k0 with z | z
        · exact z
        · rw [← z, Rat.zero_mul] at b; exact absurd b Rat.lt_irrefl
      -- a better one
      have new : FB n r d t R c (e + 1 + 1) (((e + 1 : Nat) : Int) - t) (kv r d v t (e + 1 : Nat) n) → ∀ z2 z4 z5, Sg g M_Mo_findBest (rI (fun y D' => FM 243 247 243 247 D0 D' ∧ ∃ bv, Mn D' 243 bv ∧ FB n r d t R c 201 y bv)) 195 [vR 708, vI t, z2, vI ((e + 1 : Nat) : Int), z4, z5] [] D7 := fun nb z2 z4 z5 => by
        refine s_Mo_findBest_195 ((mcopy_ok (a := 246) (b := 243) (by omega) (by omega) (by omega) q7).mono fun D8 r8 => s_Mo_findBest_205 ⟨by unfold R32; omega, s_Mo_findBest_209 ⟨by unfold R32; omega, ?_⟩⟩)
        rw [show ((e + 1 : Nat) : Int) + 1 = ((e + 1 + 1 : Nat) : Int) by omega]
        exact ih (e + 1) _ _ D8 _ _ (by omega) (by omega) (F7.tr (FM.f1 r8.2 (by omega))) r8.1 nb
      refine s_Mo_findBest_178 ⟨fun l0 => new ?_ _ _ _, fun l0 => (morder_ok (a := 244) (b := 245) (by omega) (by omega) k7 r7.1).mono fun y D8 r8 => ?_⟩
      · rcases fb with ⟨a1, a2, a3⟩ | ⟨E, a1, a2, a3, a4, a5, a6, a7⟩
        · refine Or.inr ⟨e + 1, hte, by omega, hex, rfl, z, kr, fun D h1 h2 => ?_⟩
          rcases (show D < e + 1 ∨ D = e + 1 by omega) with y | y
          · rw [a3 D h1 y, Rat.zero_mul]
            have := nat_lt_rat h1
            exact Rat.mul_nonneg (Rat.le_of_lt kp) (by grind)
          · rw [y]; exact Rat.le_refl
        · omega
      · obtain ⟨rfl, rfl⟩ := r8
        rcases fb with ⟨a1, a2, a3⟩ | ⟨E, a1, a2, a3, a4, a5, a6, a7⟩
        · omega
        · have pE := nat_lt_rat a1
          have el : (len : Rat) = (E : Rat) - (t : Rat) := by
            rw [a4, Rat.intCast_sub]; rfl
          have ee : ((((e + 1 : Nat) : Int) - (t : Int) : Int) : Rat) = ((e + 1 : Nat) : Rat) - (t : Rat) := by rw [Rat.intCast_sub]; rfl
          have cmp : bv * (((e + 1 : Nat) : Int) - t) < kv r d v t (e + 1 : Nat) n * len ↔ kn n r d t R E * (((e + 1 : Nat) : Rat) - (t : Rat)) < kn n r d t R ((e + 1 : Nat) : Int) * ((E : Rat) - (t : Rat)) := by
            rw [← Rat.intCast_lt_intCast, Rat.intCast_mul, Rat.intCast_mul, a6, kr, ee, el]
            rw [show kn n r d t R E * (c : Rat) * (((e + 1 : Nat) : Rat) - (t : Rat)) = kn n r d t R E * (((e + 1 : Nat) : Rat) - (t : Rat)) * (c : Rat) by grind, show kn n r d t R ((e + 1 : Nat) : Int) * (c : Rat) * ((E : Rat) - (t : Rat)) = kn n r d t R ((e + 1 : Nat) : Int) * ((E : Rat) - (t : Rat)) * (c : Rat) by grind]
            exact Rat.mul_lt_mul_right cq
          refine s_Mo_findBest_192 ⟨fun y => same D8 _ _ F7 b7 ?_, fun y => new ?_ _ _ _⟩
          · have ng : ¬ bv * (((e + 1 : Nat) : Int) - t) < kv r d v t (e + 1 : Nat) n * len := fun x => by
              unfold scmp at y
              rw [if_neg (by omega), if_pos x] at y
              omega
            have ng2 := Rat.not_lt.mp fun x => ng (cmp.mpr x)
            refine Or.inr ⟨E, a1, by omega, a3, a4, a5, a6, fun D h1 h2 => ?_⟩
            rcases (show D < e + 1 ∨ D = e + 1 by omega) with x | x
            · exact a7 D h1 x
            · rw [x]; exact ng2
          · have gt : bv * (((e + 1 : Nat) : Int) - t) < kv r d v t (e + 1 : Nat) n * len := by
              unfold scmp at y
              split at y
              · omega
              · split at y
                · assumption
                · omega
            have gt2 := cmp.mp gt
            refine Or.inr ⟨e + 1, hte, by omega, hex, rfl, z, kr, fun D h1 h2 => ?_⟩
            rcases (show D < e + 1 ∨ D = e + 1 by omega) with x | x
            · have a := a7 D h1 x
              have pD := nat_lt_rat h1
              have x1 := Rat.mul_le_mul_of_nonneg_right a (show 0 ≤ ((e + 1 : Nat) : Rat) - (t : Rat) by grind)
              have x2 := Rat.mul_le_mul_of_nonneg_right (Rat.le_of_lt gt2) (show 0 ≤ ((D : Nat) : Rat) - (t : Rat) by grind)
              refine Rat.le_of_mul_le_mul_right (c := (E : Rat) - (t : Rat)) ?_ (by grind)
              grind
            · rw [x]; exact Rat.le_refl
theorem findBest_ok (f : JF n r d w pl) (h0 : JM D n r d w) (hR : ∀ j, j < n → 0 ≤ R j ∧ R j ≤ 1000) (hv : MFS D n R c v) (dead : ∀ j, j < n → d j ≤ (t : Int) → R j = 0) (ht : t < 200) :
    CI g M_Mo_findBest [vR 708, vI t] D (fun y D' => FM 243 247 243 247 D D' ∧ ∃ bv, Mn D' 243 bv ∧ ((y = 0 ∧ bv = 0 ∧ Dn n r d t R 0) ∨ ∃ (E : Nat) (s : Rat), y = (E : Int) - t ∧ t < E ∧ E ≤ 200 ∧ Hid (∃ j, j < n ∧ d j = E) ∧ 0 < bv ∧ 0 < s ∧ Dn n r d t R s ∧ kn n r d t R E = s * ((E : Rat) - (t : Rat)) ∧ (bv : Rat) = kn n r d t R E * (c : Rat))) := by
  refine CI.intro mc_Mo_findBest (Nat.le_of_ble_eq_true rfl) rfl (s_Mo_findBest_0 fun D1 e1 => ⟨by unfold R32; omega, ?_⟩)
  have F : FM 243 247 243 247 D D1 := by rw [e1]; exact FM.f1 F1.w0 (by omega)
  refine zg_post (findBest_loop (D0 := D) f h0 hR hv dead ht (200 - t) t 0 0 D1 _ _ (by omega) (by omega) F (by rw [e1]; exact mn_zero) (Or.inl ⟨rfl, rfl, fun D h1 h2 => by omega⟩)) ?_
  rintro _ _ _ ⟨q1, y, q2, q3, bv, q4, q5⟩
  exact ⟨q1, y, q2, q3, bv, q4, fb_end (fun j hj => (hR j hj).1) q5 hv.2.1⟩
end MAH2
