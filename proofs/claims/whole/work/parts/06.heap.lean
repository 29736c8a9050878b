/-! rules: fields, arrays -/
def ZC (ci : Nat) (C : String) (T : u_T) (N : Nat) : Prop := zcl[ci]? = some (C, T, N) ∧ znf ci = N ∧ (∀ w ∈ u_ws C T N, w ∈ zT) ∧ (∃ ty : Nat → FieldType, ∀ k, k < N → parseFieldDescriptor (T k).2.2.1 = some (ty k)) ∧ (∀ a, a < N → ∀ b, b < N → a ≠ b → (T a).2.1 ≠ (T b).2.1)
theorem wld_get {g : GG} {E : EE} {D : DD} {a : Nat} (h : a < E.2.1) : (wld g E D)[a]? = some (gB g + a, cellE g E a (D a)) := by
  unfold wld
  rw [List.getElem?_map, List.getElem?_range h]
  rfl
theorem zw_row {D : DD} {a : Nat} {i x : Int} : zw D a i x a = fun j => if j = i then x else D a j := by
  funext j
  simp [zw]
theorem zw_off {D : DD} {a b : Nat} {i x : Int} (h : b ≠ a) : zw D a i x b = D b := by
  funext j
  simp [zw, h]
theorem wld_set {g : GG} {E : EE} {D D' : DD} {a : Nat} {e : va_E} (h : e = cellE g E a (D' a)) (ho : ∀ b, b ≠ a → D' b = D b) : (wld g E D).set a (gB g + a, e) = wld g E D' := by
  subst h
  apply List.ext_getElem?
  intro i
  unfold wld
  rw [List.getElem?_set]
  split
  · rename_i hi
    subst hi
    split
    · rename_i hl
      rw [List.length_map, List.length_range] at hl
      rw [List.getElem?_map, List.getElem?_range hl]
      rfl
    · rename_i hl
      rw [List.length_map, List.length_range] at hl
      rw [List.getElem?_eq_none (by rw [List.length_map, List.length_range]; omega)]
  · rename_i hi
    rw [List.getElem?_map, List.getElem?_map]
    by_cases hl : i < E.2.1
    · rw [List.getElem?_range hl]
      simp only [Option.map_some]
      rw [ho i (fun q => hi q.symm)]
    · rw [List.getElem?_eq_none (by rw [List.length_range]; omega)]
      rfl
theorem wld_D (g : GG) (E : EE) (D : DD) : va_D (zfr g) (wld g E D) := by
  have key : ∀ (k : Nat) (q : Nat × va_E), (wld g E D)[k]? = some q → q.1 = gB g + k := by
    intro k q h
    have hk : k < E.2.1 := by
      have := (List.getElem?_eq_some_iff.mp h).1
      unfold wld at this
      rwa [List.length_map, List.length_range] at this
    rw [wld_get hk] at h
    cases h
    rfl
  refine ⟨fun i j p q hi hj hpq => ?_, fun k q hk => ?_⟩
  · have h1 := key i p hi
    have h2 := key j q hj
    omega
  · have h1 := key k q hk
    show gB g ≤ q.1
    omega
theorem fval_I {g : GG} {E : EE} {ci i k : Nat} {row : Int → Int} (h : (zft ci k).1 ≠ 2) : fval g E ci i row k = .int (Int32.ofInt (row k)) := by
  unfold fval
  split
  · rename_i off e
    rw [e] at h
    exact absurd rfl h
  · rfl
theorem fval_R {g : GG} {E : EE} {ci i k off : Nat} {row : Int → Int} (h : zft ci k = (2, off)) (hE : E.1 i k = true) : fval g E ci i row k = .ref (gB g + (i + off)) := by
  unfold fval
  rw [h]
  simp only
  rw [if_pos hE]
theorem cell_O {g : GG} {E : EE} {i ci x : Nat} {row : Int → Int} (h : zk i = (0, ci, x)) : cellE g E i row = .inr (ci, (List.range (znf ci)).map (fun k => fval g E ci i row k)) := by unfold cellE; rw [h] <;> rfl
theorem cell_1 {g : GG} {E : EE} {i n x : Nat} {row : Int → Int} (h : zk i = (1, n, x)) : cellE g E i row = .inl (gA g 1, n, .inl (fun j => Int32.ofInt (row j))) := by unfold cellE; rw [h] <;> rfl
theorem cell_2 {g : GG} {E : EE} {i n x : Nat} {row : Int → Int} (h : zk i = (2, n, x)) : cellE g E i row = .inl (gA g 2, n, .inr (.inl (fun j => Int64.ofInt (row j)))) := by unfold cellE; rw [h] <;> rfl
theorem cell_3 {g : GG} {E : EE} {i n x : Nat} {row : Int → Int} (h : zk i = (3, n, x)) : cellE g E i row = .inl (gA g 3, n, .inl (fun j => Int32.ofInt (row j))) := by unfold cellE; rw [h] <;> rfl
theorem cell_4 {g : GG} {E : EE} {i n x : Nat} {row : Int → Int} (h : zk i = (4, n, x)) : cellE g E i row = .inl (gA g 4, n, .inl (fun j => Int32.ofInt (row j))) := by unfold cellE; rw [h] <;> rfl
theorem cell_5 {g : GG} {E : EE} {i n t : Nat} {row : Int → Int} (h : zk i = (5, n, t)) : cellE g E i row = .inl (gA g (zra t).1, n, .inr (.inr (.inr (.inr (fun j => if E.1 i j then some (gB g + (i + (zra t).2.1 + (zra t).2.2 * j)) else none))))) := by unfold cellE; rw [h] <;> rfl
theorem okD_w {E : EE} {D : DD} {a : Nat} {i x : Int} (h : okD E D) (hx : a < E.2.1 → match (zk a).1 with | 2 => R64 x | _ => R32 x) : okD E (zw D a i x) := by
  intro b hb j
  by_cases q : b = a ∧ j = i
  · obtain ⟨rfl, rfl⟩ := q
    rw [zw_eq]
    exact hx hb
  · have : zw D a i x b j = D b j := by unfold zw; rw [if_neg q]
    rw [this]
    exact h b hb j
section RH
variable {g : GG} {M : MI} {mc ms : Nat} {Q : Option VV → EE → DD → Prop} {pc : Nat} {L st : List VV} {E : EE} {D : DD} {ca sa : Nat}
theorem q_getI {ci k N index : Nat} {C : String} {T : u_T} {a : Nat} {i : Int} (hc : ZC ci C T N) (hl : Cond.fieldLink (mY M).cls index (T k).1 (T k).2.1 (T k).2.2.1 ∈ zT) (hk : k < N ∧ (zft ci k).1 ≠ 2 ∧ (k : Int) = i) (d : decode (mC M) pc = .ok (.getfield index, 3)) (ha : zk a = (0, ci, 0)) (hn : a < E.2.1)
    (kk : Zg g M mc ms Q (pc + 3) L (vI (D a i) :: st) E D ca sa) : Zg g M mc ms Q pc L (vR a :: st) E D ca sa := by
  obtain ⟨hk, hf, rfl⟩ := hk
  refine zg_ok fun _ _ hD => ?_
  have hr : R32 (D a k) := by have := hD a hn k; rw [ha] at this; exact this
  intro p l e R s m args below meth c X hR H locs ls hH hS hl' hL hs
  refine va_get (a := gB g + a) (D := gD g) (cl := zcl) (ws := wld g E D) (tys := ztys g) (ci := ci) X.1 X.2.1 X.2.2.2.2.2.1 hc.2.2.1 X.2.2.2.2.1 X.2.2.2.2.2.2.2.2.1 hH.1 a (fs := (List.range (znf ci)).map (fun k => fval g E ci a (D a) k)) (by rw [wld_get hn, cell_O ha]) hc.1 k hk (X.2.2.2.2.2.1 _ hl) (fun _ h => h) (v := .int (Int32.ofInt (D a k))) ?_ d (kk p l e R s m args below meth c X hR H locs ls hH hS hl' hL (okI hr (ok1 hs).2))
  rw [List.getElem?_map, List.getElem?_range (by rw [hc.2.1]; exact hk), Option.map_some, fval_I hf]
theorem q_getIN {ci k N index : Nat} {C h0 : String} {T : u_T} {a : Nat} {i : Int} (hc : ZC ci C T N) (hl : Cond.fieldLinkNest (mY M).cls index (T k).1 (T k).2.1 (T k).2.2.1 h0 ∈ zNest) (hk : k < N ∧ (zft ci k).1 ≠ 2 ∧ (k : Int) = i) (d : decode (mC M) pc = .ok (.getfield index, 3)) (ha : zk a = (0, ci, 0)) (hn : a < E.2.1)
    (kk : Zg g M mc ms Q (pc + 3) L (vI (D a i) :: st) E D ca sa) : Zg g M mc ms Q pc L (vR a :: st) E D ca sa := by
  obtain ⟨hk, hf, rfl⟩ := hk
  refine zg_ok fun _ _ hD => ?_
  have hr : R32 (D a k) := by have := hD a hn k; rw [ha] at this; exact this
  intro p l e R s m args below meth c X hR H locs ls hH hS hl' hL hs
  refine va_getN (a := gB g + a) (D := gD g) (cl := zcl) (ws := wld g E D) (tys := ztys g) (ci := ci) X.1 X.2.1 X.2.2.2.2.2.1 hc.2.2.1 X.2.2.2.2.1 X.2.2.2.2.2.2.2.2.1 hH.1 a (fs := (List.range (znf ci)).map (fun k => fval g E ci a (D a) k)) (by rw [wld_get hn, cell_O ha]) hc.1 k hk (va_Nw.use rfl (X.2.2.2.2.2.2.2.2.2.1 _ hl)) (fun _ h => h) (v := .int (Int32.ofInt (D a k))) ?_ d (kk p l e R s m args below meth c X hR H locs ls hH hS hl' hL (okI hr (ok1 hs).2))
  rw [List.getElem?_map, List.getElem?_range (by rw [hc.2.1]; exact hk), Option.map_some, fval_I hf]
theorem q_getR {ci k N index off : Nat} {C : String} {T : u_T} {a : Nat} (hc : ZC ci C T N) (hl : Cond.fieldLink (mY M).cls index (T k).1 (T k).2.1 (T k).2.2.1 ∈ zT) (hk : k < N ∧ zft ci k = (2, off)) (d : decode (mC M) pc = .ok (.getfield index, 3)) (ha : zk a = (0, ci, 0)) (hn : a < E.2.1) (hE : E.1 a k = true)
    (kk : Zg g M mc ms Q (pc + 3) L (vR (a + off) :: st) E D ca sa) : Zg g M mc ms Q pc L (vR a :: st) E D ca sa := by
  intro p l e R s m args below meth c X hR H locs ls hH hS hl' hL hs
  refine va_get (a := gB g + a) (D := gD g) (cl := zcl) (ws := wld g E D) (tys := ztys g) (ci := ci) X.1 X.2.1 X.2.2.2.2.2.1 hc.2.2.1 X.2.2.2.2.1 X.2.2.2.2.2.2.2.2.1 hH.1 a (fs := (List.range (znf ci)).map (fun k => fval g E ci a (D a) k)) (by rw [wld_get hn, cell_O ha]) hc.1 k hk.1 (X.2.2.2.2.2.1 _ hl) (fun _ h => h) (v := .ref (gB g + (a + off))) ?_ d (kk p l e R s m args below meth c X hR H locs ls hH hS hl' hL (okc (v := vR (a + off)) trivial (ok1 hs).2))
  rw [List.getElem?_map, List.getElem?_range (by rw [hc.2.1]; exact hk.1), Option.map_some, fval_R hk.2 hE]
theorem q_getRN {ci k N index off : Nat} {C h0 : String} {T : u_T} {a : Nat} (hc : ZC ci C T N) (hl : Cond.fieldLinkNest (mY M).cls index (T k).1 (T k).2.1 (T k).2.2.1 h0 ∈ zNest) (hk : k < N ∧ zft ci k = (2, off)) (d : decode (mC M) pc = .ok (.getfield index, 3)) (ha : zk a = (0, ci, 0)) (hn : a < E.2.1) (hE : E.1 a k = true)
    (kk : Zg g M mc ms Q (pc + 3) L (vR (a + off) :: st) E D ca sa) : Zg g M mc ms Q pc L (vR a :: st) E D ca sa := by
  intro p l e R s m args below meth c X hR H locs ls hH hS hl' hL hs
  refine va_getN (a := gB g + a) (D := gD g) (cl := zcl) (ws := wld g E D) (tys := ztys g) (ci := ci) X.1 X.2.1 X.2.2.2.2.2.1 hc.2.2.1 X.2.2.2.2.1 X.2.2.2.2.2.2.2.2.1 hH.1 a (fs := (List.range (znf ci)).map (fun k => fval g E ci a (D a) k)) (by rw [wld_get hn, cell_O ha]) hc.1 k hk.1 (va_Nw.use rfl (X.2.2.2.2.2.2.2.2.2.1 _ hl)) (fun _ h => h) (v := .ref (gB g + (a + off))) ?_ d (kk p l e R s m args below meth c X hR H locs ls hH hS hl' hL (okc (v := vR (a + off)) trivial (ok1 hs).2))
  rw [List.getElem?_map, List.getElem?_range (by rw [hc.2.1]; exact hk.1), Option.map_some, fval_R hk.2 hE]
/-- what a store into an object needs of the tables and of the heap -/
theorem put_world {ci k N : Nat} {C : String} {T : u_T} {a : Nat} {H H1 : Heap} {E E' : EE} {D' : DD} {v : Value} {cell : Cell} (hc : ZC ci C T N) (hk : k < N) (ha : zk a = (0, ci, 0)) (hn : a < E.2.1) (hH : Hp g E D H)
    (q2 : cell.cls = (gD g).1 ci) (q3 : cell.vm = .none) (q4 : ∀ j, j < N → cell.slots[(gD g).2 ci j]? = some (vp_V ((List.range (znf ci)).map (fun k => fval g E ci a (D a) k)) j)) (hap : ∀ x y, x < N → y < N → x ≠ y → (gD g).2 ci x ≠ (gD g).2 ci y)
    (e1 : H1[gB g + a]? = some (cell.setSlot ((gD g).2 ci k) v)) (e3 : ∀ q, q ≠ gB g + a → H1[q]? = H[q]?)
    (hE : E'.2.1 = E.2.1) (hnew : ∀ j, j < N → fval g E' ci a (D' a) j = if j = k then v else fval g E ci a (D a) j) (ho : ∀ b, b ≠ a → b < E.2.1 → cellE g E' b (D' b) = cellE g E b (D b)) : va_P (gD g) zcl (wld g E' D') H1 := by
  intro j q hj
  have hjl : j < E'.2.1 := by
    have := (List.getElem?_eq_some_iff.mp hj).1
    unfold wld at this
    rwa [List.length_map, List.length_range] at this
  rw [wld_get hjl] at hj
  cases hj
  by_cases hja : j = a
  · subst hja
    rw [cell_O ha]
    refine ⟨_, hc.1, t_OB.to (V := updV (vp_V ((List.range (znf ci)).map (fun k => fval g E ci j (D j) k))) k v) ⟨_, e1, q2, q3, t_set q4 hap hk v⟩ (fun y hy => ?_)⟩
    have hy' : y < znf ci := by rw [hc.2.1]; exact hy
    unfold updV vp_V
    simp only [List.getD_eq_getElem?_getD, List.getElem?_map, List.getElem?_range hy', Option.map_some, Option.getD_some]
    rw [hnew y hy]
  · rw [ho j hja (by omega)]
    exact va_at.kept (hH.1 j _ (wld_get (by omega))) (e3 _ (by show gB g + j ≠ gB g + a; omega))
theorem q_putI {ci k N index : Nat} {C : String} {T : u_T} {a : Nat} {i x : Int} (hc : ZC ci C T N) (hl : Cond.fieldLink (mY M).cls index (T k).1 (T k).2.1 (T k).2.2.1 ∈ zT) (hk : k < N ∧ (zft ci k).1 ≠ 2 ∧ (k : Int) = i ∧ (T k).2.2.2 = false) (hd : (T k).2.2.1 = "I" ∨ ((T k).2.2.1 = "Z" ∧ 0 ≤ x ∧ x ≤ 1)) (d : decode (mC M) pc = .ok (.putfield index, 3)) (ha : zk a = (0, ci, 0)) (hn : a < E.2.1)
    (kk : ∀ D', D' = zw D a i x → Zg g M mc ms Q (pc + 3) L st E D' ca sa) : Zg g M mc ms Q pc L (vI x :: vR a :: st) E D ca sa := by
  obtain ⟨hk, hf, rfl, hfin⟩ := hk
  replace kk := kk _ rfl
  intro p l e R s m args below meth c X hR H locs ls hH hS hl' hL hs
  obtain ⟨ty0, hty⟩ := hc.2.2.2.1
  have hts := X.2.2.2.2.2.1
  have hown := X.2.2.2.2.1
  have hK := X.2.2.2.2.2.2.2.2.1
  have hap := va_apart (own := (mY M).cls) hts hc.2.2.1 ty0 hty hc.2.2.2.2 hK hc.1
  have he := hH.1 a _ (wld_get hn)
  rw [cell_O ha] at he
  obtain ⟨r, h1, cell, q1, q2, q3, q4⟩ := he
  have hr : r = (C, T, N) := Option.some.inj (h1.symm.trans hc.1)
  subst hr
  obtain ⟨hSl, hfc, kC, hkC, hkind⟩ := hK.1 ci _ hc.1
  obtain ⟨cf, kf, fi, f, hi, hsl⟩ := hSl k hk
  have hlay := hts _ (hc.2.2.1 _ (u_in_lay hk))
  unfold u_lay at hlay
  rw [if_neg (by rw [hfin]; decide)] at hlay
  have hst := (u_facts hfc hkC (u_lays hts hc.2.2.1 hk) hi).1
  have hx32 : R32 x := (ok2 hs).1
  have h6 : k2_Sd s f ((gD g).1 ci) (.int (Int32.ofInt x)) := by
    rcases hd with hd | ⟨hd, hx0, hx1⟩
    · exact u_store hfc hkC hkind hlay hi (ty := .int) (by rw [hd]; decide +kernel) rfl rfl
    · rcases (show x = 0 ∨ x = 1 by omega) with rfl | rfl
      · exact u_store hfc hkC hkind hlay hi (ty := .boolean) (by rw [hd]; decide +kernel) (by decide +kernel) (by decide +kernel)
      · exact u_store hfc hkC hkind hlay hi (ty := .boolean) (by rw [hd]; decide +kernel) (by decide +kernel) (by decide +kernel)
  refine W.putK X.1 X.2.1 (f := f) ⟨hown, hts _ hl, ⟨_, _, _, hi⟩, hst⟩ (by rw [q2]; exact h6) q1 q3 (by rw [hsl]; exact k2_hasslot (q4 k hk)) rfl rfl d fun H' e1 e2 e3 => ?_
  rw [hsl] at e1 ⊢
  refine kk p l e R s m args below meth c X hR H' _ ls ⟨?_, by rw [e2]; exact hH.2.1, fun t => by rw [e2]; exact hH.2.2.1 t, okD_w hH.2.2.2 (fun _ => by rw [ha]; exact hx32)⟩ (hS.put e2 e3 (by show gB g ≤ gB g + a; omega)) hl' hL (ok2 hs).2.2
  refine put_world (H := H) hc hk ha hn hH q2 q3 q4 hap e1 e3 rfl (fun j hj => ?_) (fun b hb _ => by rw [zw_off hb])
  rw [zw_row]
  by_cases hjk : j = k
  · subst hjk
    rw [if_pos rfl, fval_I hf]
    show Value.int (Int32.ofInt (if (j : Int) = (j : Int) then x else D a j)) = _
    rw [if_pos rfl]
    rfl
  · rw [if_neg hjk]
    unfold fval
    split
    · rfl
    · show Value.int (Int32.ofInt (if (j : Int) = (k : Int) then x else D a j)) = _
      rw [if_neg (by omega)]
theorem q_putIN {ci k N index : Nat} {C h0 : String} {T : u_T} {a : Nat} {i x : Int} (hc : ZC ci C T N) (hl : Cond.fieldLinkNest (mY M).cls index (T k).1 (T k).2.1 (T k).2.2.1 h0 ∈ zNest) (hk : k < N ∧ (zft ci k).1 ≠ 2 ∧ (k : Int) = i ∧ (T k).2.2.2 = false) (hd : (T k).2.2.1 = "I" ∨ ((T k).2.2.1 = "Z" ∧ 0 ≤ x ∧ x ≤ 1)) (d : decode (mC M) pc = .ok (.putfield index, 3)) (ha : zk a = (0, ci, 0)) (hn : a < E.2.1)
    (kk : ∀ D', D' = zw D a i x → Zg g M mc ms Q (pc + 3) L st E D' ca sa) : Zg g M mc ms Q pc L (vI x :: vR a :: st) E D ca sa := by
  obtain ⟨hk, hf, rfl, hfin⟩ := hk
  replace kk := kk _ rfl
  intro p l e R s m args below meth c X hR H locs ls hH hS hl' hL hs
  obtain ⟨ty0, hty⟩ := hc.2.2.2.1
  have hts := X.2.2.2.2.2.1
  have hown := X.2.2.2.2.1
  have hK := X.2.2.2.2.2.2.2.2.1
  have hap := va_apart (own := (mY M).cls) hts hc.2.2.1 ty0 hty hc.2.2.2.2 hK hc.1
  have he := hH.1 a _ (wld_get hn)
  rw [cell_O ha] at he
  obtain ⟨r, h1, cell, q1, q2, q3, q4⟩ := he
  have hr : r = (C, T, N) := Option.some.inj (h1.symm.trans hc.1)
  subst hr
  obtain ⟨hSl, hfc, kC, hkC, hkind⟩ := hK.1 ci _ hc.1
  obtain ⟨cf, kf, fi, f, hi, hsl⟩ := hSl k hk
  have hlay := hts _ (hc.2.2.1 _ (u_in_lay hk))
  unfold u_lay at hlay
  rw [if_neg (by rw [hfin]; decide)] at hlay
  have hst := (u_facts hfc hkC (u_lays hts hc.2.2.1 hk) hi).1
  have hx32 : R32 x := (ok2 hs).1
  have h6 : k2_Sd s f ((gD g).1 ci) (.int (Int32.ofInt x)) := by
    rcases hd with hd | ⟨hd, hx0, hx1⟩
    · exact u_store hfc hkC hkind hlay hi (ty := .int) (by rw [hd]; decide +kernel) rfl rfl
    · rcases (show x = 0 ∨ x = 1 by omega) with rfl | rfl
      · exact u_store hfc hkC hkind hlay hi (ty := .boolean) (by rw [hd]; decide +kernel) (by decide +kernel) (by decide +kernel)
      · exact u_store hfc hkC hkind hlay hi (ty := .boolean) (by rw [hd]; decide +kernel) (by decide +kernel) (by decide +kernel)
  refine va_WputK X.1 X.2.1 (f := f) hown (va_Nw.use rfl (X.2.2.2.2.2.2.2.2.2.1 _ hl)) hi hst (by rw [q2]; exact h6) q1 q3 (by rw [hsl]; exact k2_hasslot (q4 k hk)) rfl rfl d fun H' e1 e2 e3 => ?_
  rw [hsl] at e1 ⊢
  refine kk p l e R s m args below meth c X hR H' _ ls ⟨?_, by rw [e2]; exact hH.2.1, fun t => by rw [e2]; exact hH.2.2.1 t, okD_w hH.2.2.2 (fun _ => by rw [ha]; exact hx32)⟩ (hS.put e2 e3 (by show gB g ≤ gB g + a; omega)) hl' hL (ok2 hs).2.2
  refine put_world (H := H) hc hk ha hn hH q2 q3 q4 hap e1 e3 rfl (fun j hj => ?_) (fun b hb _ => by rw [zw_off hb])
  rw [zw_row]
  by_cases hjk : j = k
  · subst hjk
    rw [if_pos rfl, fval_I hf]
    show Value.int (Int32.ofInt (if (j : Int) = (j : Int) then x else D a j)) = _
    rw [if_pos rfl]
    rfl
  · rw [if_neg hjk]
    unfold fval
    split
    · rfl
    · show Value.int (Int32.ofInt (if (j : Int) = (k : Int) then x else D a j)) = _
      rw [if_neg (by omega)]

/-! arrays -/
theorem z_nar_b {x : Int} (ox : 0 ≤ x ∧ x ≤ 1) : narrow .boolean (.int (Int32.ofInt x)) = .int (Int32.ofInt x) := by
  rcases (show x = 0 ∨ x = 1 by omega) with rfl | rfl <;> decide +kernel
theorem z_nar_c {x : Int} (ox : 0 ≤ x ∧ x < 65536) : narrow .char (.int (Int32.ofInt x)) = .int (Int32.ofInt x) := by
  have e : Int32.ofInt x = nI x.toNat := by
    show _ = Int32.ofNat x.toNat
    rw [← Int32.ofInt_eq_ofNat, Int.toNat_of_nonneg ox.1]
  rw [e]
  exact (pk_charN (by omega)).1

theorem ix_in {i : Int} {n : Nat} (hi : 0 ≤ i ∧ i < n) (hr : R32 i) : vp_in (Int32.ofInt i) n ∧ (Int32.ofInt i).toNatClampNeg = i.toNat := by
  have h1 : (Int32.ofInt i).toNatClampNeg = i.toNat := by
    show (Int32.ofInt i).toInt.toNat = _
    rw [i32_ti hr]
  refine ⟨?_, h1⟩
  unfold vp_in
  rw [h1, i32_0, i32_lt hr (by omega)]
  omega
theorem arr_world {a n : Nat} {i x : Int} {H H1 : Heap} (hn : a < E.2.1) (hH : Hp g E D H) {E' : EE} {D' : DD} (he : va_at (gD g) zcl (gB g + a, cellE g E' a (D' a)) H1) (e3 : ∀ q, q ≠ gB g + a → H1[q]? = H[q]?) (hE : E'.2.1 = E.2.1) (ho : ∀ b, b ≠ a → b < E.2.1 → cellE g E' b (D' b) = cellE g E b (D b)) : va_P (gD g) zcl (wld g E' D') H1 := by
  intro j q hj
  have hjl : j < E'.2.1 := by
    have := (List.getElem?_eq_some_iff.mp hj).1
    unfold wld at this
    rwa [List.length_map, List.length_range] at this
  rw [wld_get hjl] at hj
  cases hj
  by_cases hja : j = a
  · subst hja
    exact he
  · rw [ho j hja (by omega)]
    exact va_at.kept (hH.1 j _ (wld_get (by omega))) (e3 _ (by show gB g + j ≠ gB g + a; omega))
theorem row_up {row : Int → Int} {i x : Int} (hi : 0 ≤ i) {α : Type} (f : Int → α) : (fun q : Nat => if q = i.toNat then f x else f (row q)) = (fun q : Nat => f (if (q : Int) = i then x else row q)) := by
  funext q
  by_cases h : q = i.toNat
  · rw [if_pos h, if_pos (by omega)]
  · rw [if_neg h, if_neg (by omega)]
theorem q_iald {a n : Nat} {i : Int} (d : decode (mC M) pc = .ok (.iaload, 1)) (ha : zk a = (1, n, 0)) (hn : a < E.2.1) (hi : 0 ≤ i ∧ i < n) (kk : Zg g M mc ms Q (pc + 1) L (vI (D a i) :: st) E D ca sa) : Zg g M mc ms Q pc L (vI i :: vR a :: st) E D ca sa := by
  refine zg_ok fun _ h hD => ?_
  have hr : R32 (D a i) := by have := hD a hn i; rw [ha] at this; exact this
  obtain ⟨h1, h2⟩ := ix_in hi (ok2 h).1
  intro p l e R s m args below meth c X hR H locs ls hH hS hl' hL hs
  refine va_iald (a := gB g + a) (D := gD g) (cl := zcl) (ws := wld g E D) (tys := ztys g) X.1 X.2.1 X.2.2.2.2.2.2.2.2.1 hH.1 a 0 (by rw [wld_get hn, cell_1 ha]) rfl h1 d ?_
  rw [h2, Int.toNat_of_nonneg hi.1]
  exact kk p l e R s m args below meth c X hR H locs ls hH hS hl' hL (okI hr (ok2 hs).2.2)
theorem q_zald {a n : Nat} {i : Int} (d : decode (mC M) pc = .ok (.baload, 1)) (ha : zk a = (3, n, 0)) (hn : a < E.2.1) (hi : 0 ≤ i ∧ i < n) (kk : Zg g M mc ms Q (pc + 1) L (vI (D a i) :: st) E D ca sa) : Zg g M mc ms Q pc L (vI i :: vR a :: st) E D ca sa := by
  refine zg_ok fun _ h hD => ?_
  have hr : R32 (D a i) := by have := hD a hn i; rw [ha] at this; exact this
  obtain ⟨h1, h2⟩ := ix_in hi (ok2 h).1
  intro p l e R s m args below meth c X hR H locs ls hH hS hl' hL hs
  refine va_zald (a := gB g + a) (D := gD g) (cl := zcl) (ws := wld g E D) (tys := ztys g) X.1 X.2.1 X.2.2.2.2.2.2.2.2.1 hH.1 a 2 (by rw [wld_get hn, cell_3 ha]) rfl h1 d ?_
  rw [h2, Int.toNat_of_nonneg hi.1]
  exact kk p l e R s m args below meth c X hR H locs ls hH hS hl' hL (okI hr (ok2 hs).2.2)
theorem q_cald {a n : Nat} {i : Int} (d : decode (mC M) pc = .ok (.caload, 1)) (ha : zk a = (4, n, 0)) (hn : a < E.2.1) (hi : 0 ≤ i ∧ i < n) (kk : Zg g M mc ms Q (pc + 1) L (vI (D a i) :: st) E D ca sa) : Zg g M mc ms Q pc L (vI i :: vR a :: st) E D ca sa := by
  refine zg_ok fun _ h hD => ?_
  have hr : R32 (D a i) := by have := hD a hn i; rw [ha] at this; exact this
  obtain ⟨h1, h2⟩ := ix_in hi (ok2 h).1
  intro p l e R s m args below meth c X hR H locs ls hH hS hl' hL hs
  refine va_cald (a := gB g + a) (D := gD g) (cl := zcl) (ws := wld g E D) (tys := ztys g) X.1 X.2.1 X.2.2.2.2.2.2.2.2.1 hH.1 a 3 (by rw [wld_get hn, cell_4 ha]) rfl h1 d ?_
  rw [h2, Int.toNat_of_nonneg hi.1]
  exact kk p l e R s m args below meth c X hR H locs ls hH hS hl' hL (okI hr (ok2 hs).2.2)
theorem q_lald {a n : Nat} {i : Int} (d : decode (mC M) pc = .ok (.laload, 1)) (ha : zk a = (2, n, 0)) (hn : a < E.2.1) (hi : 0 ≤ i ∧ i < n) (kk : Zg g M mc ms Q (pc + 1) L (vL (D a i) :: st) E D ca sa) : Zg g M mc ms Q pc L (vI i :: vR a :: st) E D ca sa := by
  refine zg_ok fun _ h hD => ?_
  have hr : R64 (D a i) := by have := hD a hn i; rw [ha] at this; exact this
  obtain ⟨h1, h2⟩ := ix_in hi (ok2 h).1
  intro p l e R s m args below meth c X hR H locs ls hH hS hl' hL hs
  refine va_lald (a := gB g + a) (D := gD g) (cl := zcl) (ws := wld g E D) (tys := ztys g) X.1 X.2.1 X.2.2.2.2.2.2.2.2.1 hH.1 a 1 (by rw [wld_get hn, cell_2 ha]) rfl h1 d ?_
  rw [h2, Int.toNat_of_nonneg hi.1]
  exact kk p l e R s m args below meth c X hR H locs ls hH hS hl' hL (okL hr (ok2 hs).2.2)
theorem q_iast {a n : Nat} {i x : Int} (d : decode (mC M) pc = .ok (.iastore, 1)) (ha : zk a = (1, n, 0)) (hn : a < E.2.1) (hi : 0 ≤ i ∧ i < n) (kk : ∀ D', D' = zw D a i x → Zg g M mc ms Q (pc + 1) L st E D' ca sa) : Zg g M mc ms Q pc L (vI x :: vI i :: vR a :: st) E D ca sa := by
  replace kk := kk _ rfl
  refine zg_ok fun _ h _ => ?_
  have hx : R32 x := (ok1 h).1
  have hsr : ∀ w ∈ st, okv w := (ok2 (ok1 h).2).2.2
  obtain ⟨h1, h2⟩ := ix_in hi (ok1 (ok1 h).2).1
  intro p l e R s m args below meth c X hR H locs ls hH hS hl' hL hs
  have ha0 := hH.1 a _ (wld_get hn)
  rw [cell_1 ha] at ha0
  refine W.iast X.1 X.2.1 ha0 ((X.2.2.2.2.2.2.2.2.1.2 0 _ rfl).1 n (fun j => .int (Int32.ofInt (D a j)))) (fun q => by cases q) (by show ¬ (_ < 0 ∨ (arrV _ _ _).slots.size ≤ _); rw [arrV_size]; exact h1) rfl rfl d fun H1 e1 z oq => ?_
  refine kk p l e R s m args below meth c X hR H1 _ ls ⟨?_, by rw [z]; exact hH.2.1, fun t => by rw [z]; exact hH.2.2.1 t, okD_w hH.2.2.2 (fun _ => by rw [ha]; exact hx)⟩ (hS.put z oq (by show gB g ≤ gB g + a; omega)) hl' hL hsr
  refine arr_world (n := n) (i := i) (x := x) hn hH ?_ oq rfl (fun b hb _ => by rw [zw_off hb])
  rw [cell_1 ha]
  show H1[gB g + a]? = some (vp_cell _ _)
  rw [e1]
  show some (Cell.setSlot (vp_cell _ (n, _)) _ _) = _
  rw [vp_cell_i, vp_cell_i, arrV_store]
  congr 2
  funext q
  rw [zw_row]
  show (updV _ _ _ q) = .int (Int32.ofInt (if (q : Int) = i then x else D a q))
  unfold updV
  rw [h2]
  by_cases hq : q = i.toNat
  · rw [if_pos hq, if_pos (by omega)]
  · rw [if_neg hq, if_neg (by omega)]
theorem q_zast {a n : Nat} {i x : Int} (d : decode (mC M) pc = .ok (.bastore, 1)) (ha : zk a = (3, n, 0)) (hn : a < E.2.1) (hi : 0 ≤ i ∧ i < n) (ox : 0 ≤ x ∧ x ≤ 1) (kk : ∀ D', D' = zw D a i x → Zg g M mc ms Q (pc + 1) L st E D' ca sa) : Zg g M mc ms Q pc L (vI x :: vI i :: vR a :: st) E D ca sa := by
  replace kk := kk _ rfl
  refine zg_ok fun _ h _ => ?_
  have hx : R32 x := (ok1 h).1
  have hsr : ∀ w ∈ st, okv w := (ok2 (ok1 h).2).2.2
  obtain ⟨h1, h2⟩ := ix_in hi (ok1 (ok1 h).2).1
  intro p l e R s m args below meth c X hR H locs ls hH hS hl' hL hs
  have ha0 := hH.1 a _ (wld_get hn)
  rw [cell_3 ha] at ha0
  refine W.zast X.1 X.2.1 ha0 ((X.2.2.2.2.2.2.2.2.1.2 2 _ rfl).1 n (fun j => .int (Int32.ofInt (D a j)))) (fun q => by cases q) (by show ¬ (_ < 0 ∨ (arrV _ _ _).slots.size ≤ _); rw [arrV_size]; exact h1) rfl rfl d fun H1 e1 z oq => ?_
  refine kk p l e R s m args below meth c X hR H1 _ ls ⟨?_, by rw [z]; exact hH.2.1, fun t => by rw [z]; exact hH.2.2.1 t, okD_w hH.2.2.2 (fun _ => by rw [ha]; exact hx)⟩ (hS.put z oq (by show gB g ≤ gB g + a; omega)) hl' hL hsr
  refine arr_world (n := n) (i := i) (x := x) hn hH ?_ oq rfl (fun b hb _ => by rw [zw_off hb])
  rw [cell_3 ha]
  show H1[gB g + a]? = some (vp_cell _ _)
  rw [e1]
  show some (Cell.setSlot (vp_cell _ (n, _)) _ _) = _
  rw [vp_cell_i, vp_cell_i, arrV_store]
  congr 2
  funext q
  rw [zw_row]
  show (updV _ _ _ q) = .int (Int32.ofInt (if (q : Int) = i then x else D a q))
  unfold updV
  rw [h2]
  by_cases hq : q = i.toNat
  · rw [if_pos hq, if_pos (by omega)]
    exact z_nar_b ox
  · rw [if_neg hq, if_neg (by omega)]
theorem q_cast {a n : Nat} {i x : Int} (d : decode (mC M) pc = .ok (.castore, 1)) (ha : zk a = (4, n, 0)) (hn : a < E.2.1) (hi : 0 ≤ i ∧ i < n) (ox : 0 ≤ x ∧ x < 65536) (kk : ∀ D', D' = zw D a i x → Zg g M mc ms Q (pc + 1) L st E D' ca sa) : Zg g M mc ms Q pc L (vI x :: vI i :: vR a :: st) E D ca sa := by
  replace kk := kk _ rfl
  refine zg_ok fun _ h _ => ?_
  have hx : R32 x := (ok1 h).1
  have hsr : ∀ w ∈ st, okv w := (ok2 (ok1 h).2).2.2
  obtain ⟨h1, h2⟩ := ix_in hi (ok1 (ok1 h).2).1
  intro p l e R s m args below meth c X hR H locs ls hH hS hl' hL hs
  have ha0 := hH.1 a _ (wld_get hn)
  rw [cell_4 ha] at ha0
  refine W.cast X.1 X.2.1 ha0 ((X.2.2.2.2.2.2.2.2.1.2 3 _ rfl).1 n (fun j => .int (Int32.ofInt (D a j)))) (fun q => by cases q) (by show ¬ (_ < 0 ∨ (arrV _ _ _).slots.size ≤ _); rw [arrV_size]; exact h1) rfl rfl d fun H1 e1 z oq => ?_
  refine kk p l e R s m args below meth c X hR H1 _ ls ⟨?_, by rw [z]; exact hH.2.1, fun t => by rw [z]; exact hH.2.2.1 t, okD_w hH.2.2.2 (fun _ => by rw [ha]; exact hx)⟩ (hS.put z oq (by show gB g ≤ gB g + a; omega)) hl' hL hsr
  refine arr_world (n := n) (i := i) (x := x) hn hH ?_ oq rfl (fun b hb _ => by rw [zw_off hb])
  rw [cell_4 ha]
  show H1[gB g + a]? = some (vp_cell _ _)
  rw [e1]
  show some (Cell.setSlot (vp_cell _ (n, _)) _ _) = _
  rw [vp_cell_i, vp_cell_i, arrV_store]
  congr 2
  funext q
  rw [zw_row]
  show (updV _ _ _ q) = .int (Int32.ofInt (if (q : Int) = i then x else D a q))
  unfold updV
  rw [h2]
  by_cases hq : q = i.toNat
  · rw [if_pos hq, if_pos (by omega)]
    exact z_nar_c ox
  · rw [if_neg hq, if_neg (by omega)]
theorem q_last {a n : Nat} {i x : Int} (d : decode (mC M) pc = .ok (.lastore, 1)) (ha : zk a = (2, n, 0)) (hn : a < E.2.1) (hi : 0 ≤ i ∧ i < n) (kk : ∀ D', D' = zw D a i x → Zg g M mc ms Q (pc + 1) L st E D' ca sa) : Zg g M mc ms Q pc L (vL x :: vI i :: vR a :: st) E D ca sa := by
  replace kk := kk _ rfl
  refine zg_ok fun _ h _ => ?_
  have hx : R64 x := (ok1 h).1
  have hsr : ∀ w ∈ st, okv w := (ok2 (ok1 h).2).2.2
  obtain ⟨h1, h2⟩ := ix_in hi (ok1 (ok1 h).2).1
  intro p l e R s m args below meth c X hR H locs ls hH hS hl' hL hs
  have ha0 := hH.1 a _ (wld_get hn)
  rw [cell_2 ha] at ha0
  refine W.last X.1 X.2.1 ha0 ((X.2.2.2.2.2.2.2.2.1.2 1 _ rfl).1 n (fun j => .long (Int64.ofInt (D a j)))) (fun q => by cases q) (by show ¬ (_ < 0 ∨ (arrV _ _ _).slots.size ≤ _); rw [arrV_size]; exact h1) rfl rfl d fun H1 e1 z oq => ?_
  refine kk p l e R s m args below meth c X hR H1 _ ls ⟨?_, by rw [z]; exact hH.2.1, fun t => by rw [z]; exact hH.2.2.1 t, okD_w hH.2.2.2 (fun _ => by rw [ha]; exact hx)⟩ (hS.put z oq (by show gB g ≤ gB g + a; omega)) hl' hL hsr
  refine arr_world (n := n) (i := i) (x := x) hn hH ?_ oq rfl (fun b hb _ => by rw [zw_off hb])
  rw [cell_2 ha]
  show H1[gB g + a]? = some (vp_cell _ _)
  rw [e1]
  show some (Cell.setSlot (vp_cell _ (n, _)) _ _) = _
  rw [vp_cell_l, vp_cell_l, arrV_store]
  congr 2
  funext q
  rw [zw_row]
  show (updV _ _ _ q) = .long (Int64.ofInt (if (q : Int) = i then x else D a q))
  unfold updV
  rw [h2]
  by_cases hq : q = i.toNat
  · rw [if_pos hq, if_pos (by omega)]
  · rw [if_neg hq, if_neg (by omega)]
theorem q_aald {a n t : Nat} {i : Int} (d : decode (mC M) pc = .ok (.aaload, 1)) (ha : zk a = (5, n, t)) (ht : (zra t).1 = 5 ∨ (zra t).1 = 6) (hn : a < E.2.1) (hi : 0 ≤ i ∧ i < n) (hE : E.1 a i.toNat = true) (kk : Zg g M mc ms Q (pc + 1) L (vR (a + (zra t).2.1 + (zra t).2.2 * i.toNat) :: st) E D ca sa) : Zg g M mc ms Q pc L (vI i :: vR a :: st) E D ca sa := by
  refine zg_ok fun _ h hD => ?_
  obtain ⟨h1, h2⟩ := ix_in hi (ok2 h).1
  intro p l e R s m args below meth c X hR H locs ls hH hS hl' hL hs
  have key : ∀ (t0 : Nat) (C : String), (ztys g)[t0]? = some (gA g (zra t).1, .object C) → W p l e R s m args below meth c H locs ca sa (MQ below (Qp g Q) args s mc ms (zfr g)) (F0 m pc ls ((vI i :: vR a :: st).map (val g))) := by
    intro t0 C hty
    refine va_aldq (a := gB g + a) (D := gD g) (cl := zcl) (ws := wld g E D) (tys := ztys g) X.1 X.2.1 X.2.2.2.2.2.2.2.2.1 hH.1 a t0 (by rw [wld_get hn, cell_5 ha]) hty h1 d ?_
    rw [h2, if_pos hE]
    exact kk p l e R s m args below meth c X hR H locs ls hH hS hl' hL (okc (v := vR _) trivial (ok2 hs).2.2)
  rcases ht with ht | ht
  · exact key 4 "SpeedKernel$Natural" (by rw [ht]; rfl)
  · exact key 5 "SpeedKernel$Fraction" (by rw [ht]; rfl)
theorem q_alen {a n kc : Nat} (d : decode (mC M) pc = .ok (.arraylength, 1)) (ha : zk a = (kc, n, 0)) (hk : kc = 1 ∧ n ≤ 2147483647) (hn : a < E.2.1) (kk : Zg g M mc ms Q (pc + 1) L (vI n :: st) E D ca sa) : Zg g M mc ms Q pc L (vR a :: st) E D ca sa := by
  obtain ⟨rfl, hk⟩ := hk
  intro p l e R s m args below meth c X hR H locs ls hH hS hl' hL hs
  exact va_alen (a := gB g + a) (D := gD g) (cl := zcl) (ws := wld g E D) (tys := ztys g) X.1 X.2.1 X.2.2.2.2.2.2.2.2.1 hH.1 a 0 (by rw [wld_get hn, cell_1 ha]) rfl (v := Int32.ofInt n) (by rw [Int32.ofInt_eq_ofNat]) d (kk p l e R s m args below meth c X hR H locs ls hH hS hl' hL (okI (by omega) (ok1 hs).2))
theorem q_slen (d : decode (mC M) pc = .ok (.arraylength, 1)) (hk : gL g ≤ 2147483647) (kk : Zg g M mc ms Q (pc + 1) L (vI (gL g) :: st) E D ca sa) : Zg g M mc ms Q pc L (vS :: st) E D ca sa := by
  intro p l e R s m args below meth c X hR H locs ls hH hS hl' hL hs
  obtain ⟨hX, hb, hs0⟩ := X.2.2.2.2.2.2.2.2.2.2.2
  refine va_slen (b := gb g) (A := zfr g) X.1 X.2.1 hX (by omega) (by show ¬ gB g ≤ gb g; omega) hS d ?_
  rw [← Int32.ofInt_eq_ofNat]
  exact kk p l e R s m args below meth c X hR H locs ls hH hS hl' hL (okI (by omega) (ok1 hs).2)
theorem q_sld {i : Int} (d : decode (mC M) pc = .ok (.iaload, 1)) (hi : 0 ≤ i ∧ i < gL g) (kk : Zg g M mc ms Q (pc + 1) L (vI ((gx g) i.toNat).toInt :: st) E D ca sa) : Zg g M mc ms Q pc L (vI i :: vS :: st) E D ca sa := by
  refine zg_ok fun _ h _ => ?_
  obtain ⟨h1, h2⟩ := ix_in hi (ok2 h).1
  intro p l e R s m args below meth c X hR H locs ls hH hS hl' hL hs
  obtain ⟨hX, hb, hs0⟩ := X.2.2.2.2.2.2.2.2.2.2.2
  refine va_sld (b := gb g) (A := zfr g) X.1 X.2.1 hX (by omega) (by show ¬ gB g ≤ gb g; omega) hS h1 d ?_
  rw [h2]
  have e9 : Value.int ((gx g) i.toNat) = val g (vI ((gx g) i.toNat).toInt) := by rw [val_I, Int32.ofInt_toInt]
  rw [e9]
  have b1 := ((gx g) i.toNat).le_toInt
  have b2 := ((gx g) i.toNat).toInt_lt
  exact kk p l e R s m args below meth c X hR H locs ls hH hS hl' hL (okI (by omega) (ok2 hs).2.2)
end RH
