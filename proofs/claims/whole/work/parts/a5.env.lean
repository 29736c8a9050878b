/-! which references are set: one world, two ways to say it; Natural, Fraction made -/
/-- where a reference may stand -/
def rp (i k : Nat) : Prop := ((zk i).1 = 0 ∧ k < znf (zk i).2.1 ∧ (zft (zk i).2.1 k).1 = 2) ∨ ((zk i).1 = 5 ∧ k < (zk i).2.1)
section ENV
variable {g : GG} {M M' : MI} {mc ms mc' ms' : Nat} {Q Q' : Option VV → EE → DD → Prop} {pc : Nat} {L st : List VV} {E E' : EE} {D : DD} {ca sa : Nat}
theorem arrV_congr {c : ClassId} {n : Nat} {f h : Nat → Value} (q : ∀ j, j < n → f j = h j) : arrV c n f = arrV c n h := by
  unfold arrV
  congr 2
  funext j
  exact q j.1 j.2
theorem va_env {i : Nat} {row : Int → Int} {H : Heap} (h : va_at (gD g) zcl (gB g + i, cellE g E i row) H) (q : ∀ k, rp i k → E'.1 i k = E.1 i k) : va_at (gD g) zcl (gB g + i, cellE g E' i row) H := by
  rcases e : zk i with ⟨t, n, x⟩
  have ez : (zk i).1 = t ∧ (zk i).2.1 = n := by rw [e]; exact ⟨rfl, rfl⟩
  by_cases t0 : t = 0
  · subst t0
    rw [cell_O e] at h ⊢
    have : (List.range (znf n)).map (fun k => fval g E' n i row k) = (List.range (znf n)).map (fun k => fval g E n i row k) := by
      refine List.map_congr_left fun k hk => ?_
      have hk' : k < znf n := List.mem_range.mp hk
      by_cases z : (zft n k).1 = 2
      · have e1 := q k (Or.inl ⟨ez.1, by rw [ez.2]; exact hk', by rw [ez.2]; exact z⟩)
        unfold fval
        rw [e1]
      · rw [fval_I z, fval_I z]
    rw [this]; exact h
  by_cases t5 : t = 5
  · subst t5
    rw [cell_5 e] at h ⊢
    show H[gB g + i]? = some (vp_cell _ _)
    have h' : H[gB g + i]? = some (vp_cell _ _) := h
    rw [h', vp_cell_q, vp_cell_q]
    refine congrArg some (arrV_congr fun j hj => ?_)
    rw [q j (Or.inr ⟨ez.1, by rw [ez.2]; exact hj⟩)]
  · have : cellE g E' i row = cellE g E i row := by
      unfold cellE
      rw [e]
      split
      · rename_i h; exact absurd (congrArg (fun z => z.1) h) t0
      · rfl
      · rfl
      · rfl
      · rfl
      · rename_i h; exact absurd (congrArg (fun z => z.1) h) t5
      · rfl
    rw [this]; exact h
theorem hp_env {H : Heap} (h : Hp g E D H) (hN : E'.2.1 = E.2.1) (h2 : E'.2.2 → E.2.2) (q : ∀ i, i < E.2.1 → ∀ k, rp i k → E'.1 i k = E.1 i k) : Hp g E' D H := by
  refine ⟨fun j x hj => ?_, by rw [hN]; exact h.2.1, fun t => by rw [hN]; exact h.2.2.1 (h2 t), fun a ha => h.2.2.2 a (by rw [← hN]; exact ha)⟩
  have hjl : j < E'.2.1 := by
    have := (List.getElem?_eq_some_iff.mp hj).1
    unfold wld at this
    rwa [List.length_map, List.length_range] at this
  rw [wld_get hjl] at hj
  cases hj
  exact va_env (h.1 j _ (wld_get (by rw [← hN]; exact hjl))) (q j (by rw [← hN]; exact hjl))
theorem q_env (h : ∀ H, Hp g E D H → Hp g E' D H) (k : Zg g M mc ms Q pc L st E' D ca sa) : Zg g M mc ms Q pc L st E D ca sa := by
  intro p l e R s m args below meth c X hR H locs ls hH hS hl' hL hs
  exact k p l e R s m args below meth c X hR H locs ls (h H hH) hS hl' hL hs
/-- an object of so many cells is there -/
def eB (E : EE) (a s : Nat) : EE := (fun i k => if i < a then E.1 i k else decide (i < a + s), a + s, E.2.2)
/-- where an object begins -/
def ST (E : EE) (D : DD) (a : Nat) : Prop := E.2.1 = a + 1 ∧ E.2.2 ∧ (∀ i k, a ≤ i → E.1 i k = false) ∧ ∀ i j, a ≤ i → D i j = 0
theorem q_env_eB {a s : Nat} {E0 : EE} (hN : E.2.1 = a + s) (hE : E.2.2 ∧ E0.2.2) (h1 : ∀ i k, i < a → E.1 i k = E0.1 i k) (h2 : ∀ i k, a ≤ i → i < a + s → rp i k → E.1 i k = true) (k : Zg g M mc ms Q pc L st (eB E0 a s) D ca sa) : Zg g M mc ms Q pc L st E D ca sa :=
  q_env (fun H hH => hp_env hH hN.symm (fun _ => hE.1) fun i hi k hk => by
    show (if i < a then E0.1 i k else decide (i < a + s)) = _
    by_cases z : i < a
    · rw [if_pos z, h1 i k z]
    · rw [if_neg z, h2 i k (by omega) (by omega) hk]
      exact decide_eq_true (by omega)) k
theorem rp_no {i k : Nat} (h : (zk i).1 ≠ 0 ∧ (zk i).1 ≠ 5) : ¬ rp i k := fun q => q.elim (fun z => h.1 z.1) fun z => h.2 z.1
theorem rp_O {i k ci x : Nat} (h : zk i = (0, ci, x)) (q : rp i k) : k < znf ci ∧ (zft ci k).1 = 2 := by
  unfold rp at q
  rw [h] at q
  rcases q with q | q
  · exact q.2
  · exact absurd q.1 (by show ¬ (0 : Nat) = 5; decide)
/-- arrays of numbers -/
theorem q_newI {n x0 : Nat} {x : Int} (ha : zk E.2.1 = (1, n, x0)) (hx : ¬ Int32.ofInt x < 0 ∧ (Int32.ofInt x).toNatClampNeg = n ∧ n * componentBytes (newarray.typeOf .int) ≤ 536870912) (d : decode (mC M) pc = .ok (.newarray .int, 2)) (hE : E.2.2) (hz : ∀ j, D E.2.1 j = 0) (hcs : ca + 1 ≤ mc ∧ sa + n ≤ ms)
    (kk : Zg g M mc ms Q (pc + 2) L (vR E.2.1 :: st) (eP E) D (ca + 1) (sa + n)) : Zg g M mc ms Q pc L (vI x :: st) E D ca sa :=
  q_newarr (tk := 1) (n := n) (atype := .int) (a0 := (n, .inl fun j => Int32.ofInt (D E.2.1 j))) za_int rfl (fun _ _ h => h) (cell_1 ha) (fun cA => by
    rw [vp_cell_i]
    exact arrV_congr fun j _ => by rw [hz]; rfl) hx d hE hz hcs kk
theorem q_newJ {n x0 : Nat} {x : Int} (ha : zk E.2.1 = (2, n, x0)) (hx : ¬ Int32.ofInt x < 0 ∧ (Int32.ofInt x).toNatClampNeg = n ∧ n * componentBytes (newarray.typeOf .long) ≤ 536870912) (d : decode (mC M) pc = .ok (.newarray .long, 2)) (hE : E.2.2) (hz : ∀ j, D E.2.1 j = 0) (hcs : ca + 1 ≤ mc ∧ sa + n ≤ ms)
    (kk : Zg g M mc ms Q (pc + 2) L (vR E.2.1 :: st) (eP E) D (ca + 1) (sa + n)) : Zg g M mc ms Q pc L (vI x :: st) E D ca sa :=
  q_newarr (tk := 2) (n := n) (atype := .long) (a0 := (n, .inr (.inl fun j => Int64.ofInt (D E.2.1 j)))) za_long rfl (fun _ _ h => h) (cell_2 ha) (fun cA => by
    rw [vp_cell_l]
    exact arrV_congr fun j _ => by rw [hz]; rfl) hx d hE hz hcs kk
theorem q_newZ {n x0 : Nat} {x : Int} (ha : zk E.2.1 = (3, n, x0)) (hx : ¬ Int32.ofInt x < 0 ∧ (Int32.ofInt x).toNatClampNeg = n ∧ n * componentBytes (newarray.typeOf .boolean) ≤ 536870912) (d : decode (mC M) pc = .ok (.newarray .boolean, 2)) (hE : E.2.2) (hz : ∀ j, D E.2.1 j = 0) (hcs : ca + 1 ≤ mc ∧ sa + n ≤ ms)
    (kk : Zg g M mc ms Q (pc + 2) L (vR E.2.1 :: st) (eP E) D (ca + 1) (sa + n)) : Zg g M mc ms Q pc L (vI x :: st) E D ca sa :=
  q_newarr (tk := 3) (n := n) (atype := .boolean) (a0 := (n, .inl fun j => Int32.ofInt (D E.2.1 j))) za_boolean rfl (fun _ _ h => h) (cell_3 ha) (fun cA => by
    rw [vp_cell_i]
    exact arrV_congr fun j _ => by rw [hz]; rfl) hx d hE hz hcs kk
theorem q_newC {n x0 : Nat} {x : Int} (ha : zk E.2.1 = (4, n, x0)) (hx : ¬ Int32.ofInt x < 0 ∧ (Int32.ofInt x).toNatClampNeg = n ∧ n * componentBytes (newarray.typeOf .char) ≤ 536870912) (d : decode (mC M) pc = .ok (.newarray .char, 2)) (hE : E.2.2) (hz : ∀ j, D E.2.1 j = 0) (hcs : ca + 1 ≤ mc ∧ sa + n ≤ ms)
    (kk : Zg g M mc ms Q (pc + 2) L (vR E.2.1 :: st) (eP E) D (ca + 1) (sa + n)) : Zg g M mc ms Q pc L (vI x :: st) E D ca sa :=
  q_newarr (tk := 4) (n := n) (atype := .char) (a0 := (n, .inl fun j => Int32.ofInt (D E.2.1 j))) za_char rfl (fun _ _ h => h) (cell_4 ha) (fun cA => by
    rw [vp_cell_i]
    exact arrV_congr fun j _ => by rw [hz]; rfl) hx d hE hz hcs kk
theorem na_init {a : Nat} (ha : zk a = (0, 3, 0)) (s0 : ST E D a) : AT g M_Na_init 1 32 [vR a] E D (fun r E' D' => r = none ∧ E' = eB E a 2 ∧ D' = D) := by
  obtain ⟨hN, hE, hf, hz⟩ := s0
  have z1 := zs_Na_digits ha
  refine at_intro (L0 := [vR a]) mc_Na_init (Nat.le_of_ble_eq_true rfl) rfl ?_
  refine q_aload_n d_Na_init_0 rfl ?_
  refine q_objI l_Na_3 zx_oi_linki zx_oi_linkc d_Na_init_1 (by decide) ?_
  refine q_aload_n d_Na_init_4 rfl ?_
  refine q_bipush d_Na_init_5 (by decide) ?_
  refine q_newI (n := 32) (by rw [hN]; exact z1) (by decide) d_Na_init_7 hE (fun j => by rw [hN]; exact hz _ j (by omega)) (by decide) ?_
  refine q_putRF (k := 0) (off := 1) zc_Na l_Na_9 (by decide +kernel) rfl rfl (ty := .array .int) (by decide +kernel) (fun _ => rfl) (fun _ => rfl) d_Na_init_9 ha (by show a < E.2.1 + 1; omega) (by rw [hN]) ?_
  refine q_env_eB (E0 := E) (a := a) (s := 2) (by show E.2.1 + 1 = a + 2; omega) ⟨hE, hE⟩ (fun i k hi => if_neg (by omega)) (fun i k h1 h2 hk => ?_) ?_
  · rcases (show i = a ∨ i = a + 1 by omega) with y | y
    · subst y
      have q := rp_O ha hk
      have : k = 0 := by
        have h2 : k < 2 := q.1
        rcases (show k = 0 ∨ k = 1 by omega) with z | z
        · exact z
        · rw [z] at q; exact absurd q.2 (by decide +kernel)
      subst this
      exact if_pos ⟨rfl, rfl⟩
    · subst y
      exact absurd hk (rp_no (by rw [z1]; decide))
  · exact q_vret d_Na_init_12 rfl (by decide) ⟨rfl, rfl, rfl⟩
end ENV
