/-! further rules: forgetting dead locals, Math, arraycopy, a mask -/
def lmk : List Bool → List VV → List VV
  | b :: bs, v :: l => (if b then vU else v) :: lmk bs l
  | _, l => l
theorem lmk_get : ∀ (F : List Bool) (L : List VV) (i : Nat) (w : VV), (lmk F L)[i]? = some w → w.1 ≠ 5 → L[i]? = some w
  | [], L, i, w, h, _ => h
  | _ :: _, [], i, w, h, _ => h
  | b :: bs, v :: l, 0, w, h, hw => by
    simp only [lmk, List.getElem?_cons_zero, Option.some.injEq] at h
    split at h
    · subst h; exact absurd rfl hw
    · subst h; rfl
  | b :: bs, v :: l, i + 1, w, h, hw => by
    simp only [lmk, List.getElem?_cons_succ] at h ⊢
    exact lmk_get bs l i w h hw
theorem lmk_ok : ∀ (F : List Bool) (L : List VV), (∀ w ∈ L, okv w) → ∀ w ∈ lmk F L, okv w
  | [], L, h, w, hw => h w hw
  | _ :: _, [], h, w, hw => h w hw
  | b :: bs, v :: l, h, w, hw => by
    simp only [lmk] at hw
    rcases List.mem_cons.mp hw with q | q
    · rw [q]; split
      · exact ok_vU
      · exact h v List.mem_cons_self
    · exact lmk_ok bs l (fun x hx => h x (List.mem_cons_of_mem _ hx)) w q
def zcp (D : DD) (s d : Nat) (sp dp n : Int) : DD := fun b j => if b = d ∧ dp ≤ j ∧ j < dp + n then D s (sp + (j - dp)) else D b j
theorem zmask {s : Int} (h : 0 ≤ s ∧ s ≤ 62) : (Int64.ofInt (1 * 2 ^ s.toNat - 1)).toBitVec.toNat = 2 ^ s.toNat - 1 ∧ s.toNat ≤ 63 := by
  have hp := Nat.two_pow_pos s.toNat
  have h1 : (1 : Int) * 2 ^ s.toNat - 1 = ((2 ^ s.toNat - 1 : Nat) : Int) := by
    rw [Int.one_mul, Int.natCast_sub hp, Int.natCast_pow]; rfl
  have h2 : 2 ^ s.toNat ≤ 2 ^ 62 := Nat.pow_le_pow_right (by decide) (by omega)
  refine ⟨?_, by omega⟩
  rw [i64_nat ⟨by omega, by omega⟩, h1, Int.toNat_natCast]
theorem zx_copyn : Cond.native ⟨"java/lang/System", "arraycopy", "(Ljava/lang/Object;ILjava/lang/Object;II)V"⟩ ∈ zT := zT_mk 603 (by decide +kernel) (by decide +kernel)
theorem wld_size {g : GG} {E : EE} {D : DD} {H : Heap} (h : va_P (gD g) zcl (wld g E D) H) (h0 : 0 < E.2.1) : gB g + E.2.1 ≤ H.size := by
  have h1 := (h (E.2.1 - 1) _ (wld_get (Nat.sub_lt h0 Nat.zero_lt_one))).lt
  have h2 : gB g + (E.2.1 - 1) < H.size := h1
  omega
section RX
variable {g : GG} {M : MI} {mc ms : Nat} {Q : Option VV → EE → DD → Prop} {pc : Nat} {L L' st : List VV} {E : EE} {D : DD} {ca sa : Nat}
theorem q_mask (F : List Bool) (h : lmk F L = L') (k : Zg g M mc ms Q pc L' st E D ca sa) : Zg g M mc ms Q pc L st E D ca sa := by
  subst h
  intro p l e R s m args below meth c C hR H locs ls hH hS hl hL hs
  exact k p l e R s m args below meth c C hR H locs ls hH hS ⟨hl.1, hl.2.1, fun j v hj hv => hl.2.2 j v (lmk_get F L j v hj hv) hv⟩ (lmk_ok F L hL) hs
theorem p_max {x y : Int} {index : Nat} (hl : Cond.methodLink (mY M).cls index Lib.Math.max.name ∈ zT) (d : decode (mC M) pc = .ok (.invokestatic index, 3)) (hk : (decide (1 ≤ mdp M) && decide (zcats st ≤ 8)) = true) (kk : Sg g M Q (pc + 3) L (vI (max x y) :: st) D) : Sg g M Q pc L (vI y :: vI x :: st) D := by
  refine q_max hl d hk ⟨Nat.le_refl _, Nat.le_refl _⟩ ?_
  rw [show (if x < y then y else x) = max x y by split <;> omega]
  exact kk
theorem p_min {x y : Int} {index : Nat} (hl : Cond.methodLink (mY M).cls index Lib.Math.min.name ∈ zT) (d : decode (mC M) pc = .ok (.invokestatic index, 3)) (hk : (decide (1 ≤ mdp M) && decide (zcats st ≤ 8)) = true) (kk : Sg g M Q (pc + 3) L (vI (min x y) :: st) D) : Sg g M Q pc L (vI y :: vI x :: st) D := by
  refine q_min hl d hk ⟨Nat.le_refl _, Nat.le_refl _⟩ ?_
  rw [show (if y < x then y else x) = min x y by split <;> omega]
  exact kk
theorem cl_nn {z : Int} (h : 0 ≤ z) (hr : R32 z) : ¬ Int32.ofInt z < 0 ∧ (Int32.ofInt z).toNatClampNeg = z.toNat := by
  refine ⟨by rw [i32_0, i32_lt hr (by omega)]; omega, ?_⟩
  show (Int32.ofInt z).toInt.toNat = _
  rw [i32_ti hr]
theorem p_copy {s d n0 n1 : Nat} {sp dp n : Int} {index : Nat} (hl : Cond.methodLink (mY M).cls index arraycopyName ∈ zT) (dd : decode (mC M) pc = .ok (.invokestatic index, 3)) (hs0 : zk s = (1, n0, 0)) (hd0 : zk d = (1, n1, 0)) (o : (0 ≤ sp ∧ 0 ≤ dp ∧ 0 ≤ n) ∧ sp + n ≤ n0 ∧ dp + n ≤ n1) (hk : (decide (1 ≤ mdp M) && decide (zcats st ≤ 8)) = true)
    (kk : ∀ D', D' = zcp D s d sp dp n → Sg g M Q (pc + 3) L st D') : Sg g M Q pc L (vI n :: vI dp :: vR d :: vI sp :: vR s :: st) D := by
  replace kk := kk _ rfl
  simp only [Bool.and_eq_true, decide_eq_true_eq] at hk
  refine sg_ok fun _ h hD => ?_
  have hrn : R32 n := (ok1 h).1
  have hrd : R32 dp := (ok1 (ok1 h).2).1
  have hrs : R32 sp := (ok1 (ok1 (ok1 (ok1 h).2).2).2).1
  have hst : ∀ w ∈ st, okv w := (ok1 (ok1 (ok1 (ok1 (ok1 h).2).2).2).2).2
  obtain ⟨a1, a2⟩ := cl_nn o.1.2.2 hrn
  obtain ⟨b1, b2⟩ := cl_nn o.1.2.1 hrd
  obtain ⟨c1, c2⟩ := cl_nn o.1.1 hrs
  have hns := zk_lt hs0 (by decide)
  have hnd := zk_lt hd0 (by decide)
  intro p l e R st0 m args below meth c X hR H locs ls hH hS hl' hL hs
  have hts := X.2.2.2.2.2.1
  refine va_copyi (a := gB g + d) (a0 := gB g + s) (D := gD g) (cl := zcl) (ws := wld g zE D) (tys := ztys g) X.1 X.2.1 (X.2.2.1.trans hl'.1.symm) X.2.2.2.2.1 (hts _ hl) (hts _ zx_copyn) (hts _ zx_copy.2.1) (hts _ zx_copy.2.2.1) X.2.2.2.2.2.2.2.2.1 hH.1 (wld_D g zE D) hS s d 0 0
    (by rw [wld_get hns, cell_1 hs0]) (by rw [wld_get hnd, cell_1 hd0]) rfl rfl rfl c1 b1 a1 (by rw [c2, a2]; omega) (by rw [b2, a2]; omega) (fun _ _ => rfl) (by omega) ?_ dd (fun H1 locs1 hP1 hD1 hS1 => ?_)
  · rw [zcats_sum]
    have : nativeFrameWords "java/lang/System" "arraycopy" 5 ≤ 29 := by decide +kernel
    omega
  · have hw : (wld g zE D).set d (gB g + d, .inl (gA g 1, n1, .inl (va_cpy (fun j => Int32.ofInt (D s j)) (fun j => Int32.ofInt (D d j)) (Int32.ofInt sp).toNatClampNeg (Int32.ofInt dp).toNatClampNeg (Int32.ofInt n).toNatClampNeg))) = wld g zE (zcp D s d sp dp n) := by
      refine wld_set ?_ (fun b hb => ?_)
      · rw [cell_1 hd0]
        congr 4
        funext j
        rw [a2, b2, c2]
        unfold va_cpy zcp
        by_cases hj : dp.toNat ≤ j ∧ j < dp.toNat + n.toNat
        · rw [if_pos hj, if_pos ⟨rfl, by omega, by omega⟩]
          show Int32.ofInt (D s ((sp.toNat + (j - dp.toNat) : Nat) : Int)) = _
          rw [show ((sp.toNat + (j - dp.toNat) : Nat) : Int) = sp + ((j : Int) - dp) by omega]
        · rw [if_neg hj, if_neg (by omega)]
      · funext j
        unfold zcp
        rw [if_neg (fun q => hb q.1)]
    rw [hw] at hP1
    refine kk p l e R st0 m args below meth c X hR H1 locs1 ls ⟨hP1, wld_size hP1 (Nat.lt_of_le_of_lt (Nat.zero_le _) hns), fun q => q.elim, fun b hb j => ?_⟩ hS1 hl' hL hst
    unfold zcp
    by_cases q : b = d ∧ dp ≤ j ∧ j < dp + n
    · rw [if_pos q, q.1, hd0]
      have := hD s hns (sp + (j - dp))
      rw [hs0] at this
      exact this
    · rw [if_neg q]
      exact hD b hb j
theorem q_aloadN {i : Nat} (d : decode (mC M) pc = .ok (.aload i, 2)) (hi : L[i]? = some vN) (k : Zg g M mc ms Q (pc + 2) L (vN :: st) E D ca sa) : Zg g M mc ms Q pc L st E D ca sa := by
  intro p l e R s m args below meth c C hR H locs ls hH hS hl hL hs
  exact lv_aloadN C.1 C.2.1 d (hl.2.2 _ _ hi (Nat.ne_of_beq_eq_false rfl)) (k p l e R s m args below meth c C hR H locs ls hH hS hl hL (okc (hL _ (List.mem_of_getElem? hi)) hs))
theorem q_astoreN {i : Nat} (d : decode (mC M) pc = .ok (.astore i, 2)) (hn : i < mL M) (hl : lst1 L i vN = L') (k : Zg g M mc ms Q (pc + 2) L' st E D ca sa) : Zg g M mc ms Q pc L (vN :: st) E D ca sa := by
  subst hl
  refine zg_st1 (len := 2) (i := i) rfl hn ?_ k
  intro p l e R s m args below meth c H locs cells slots Q ls ls' rest hexec hb e' kk T hT X
  obtain ⟨t, a, b⟩ := kk T hT X
  rw [val_N] at e'
  refine ⟨t, ?_, b⟩
  rw [val_N]
  jvm_step X.here [X.here.top, ↓top_set X.here.top, hexec, hb, d, e', Value.isRef]
  exact a
end RX
section RP
variable {g : GG} {M : MI} {mc ms : Nat} {Q Q' : Option VV → EE → DD → Prop} {pc : Nat} {L st : List VV} {E : EE} {D : DD} {ca sa : Nat}
/-- less is asked of the end -/
theorem zg_post (k : Zg g M mc ms Q pc L st E D ca sa) (hq : ∀ r E' D', Q r E' D' → Q' r E' D') : Zg g M mc ms Q' pc L st E D ca sa := by
  intro p l e R s m args below meth c C hR H locs ls hH hS hl hL hs T hT X
  obtain ⟨t, a, o, b1, b2, ⟨⟨r, E', D', a1, a2, a3, a4⟩, a5⟩, b4⟩ := k p l e R s m args below meth c C hR H locs ls hH hS hl hL hs T hT X
  exact ⟨t, a, o, b1, b2, ⟨⟨r, E', D', a1, a2, a3, hq r E' D' a4⟩, a5⟩, b4⟩
end RP
