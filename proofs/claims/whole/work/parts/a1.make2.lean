/-! new cells: arrays, fields and elements that are set, constructors called -/
section MAKE2
variable {g : GG} {M M' : MI} {mc ms mc' ms' : Nat} {Q Q' : Option VV → EE → DD → Prop} {pc : Nat} {L st : List VV} {E : EE} {D : DD} {ca sa : Nat}
theorem q_newarr {tk n : Nat} {x : Int} {atype : ArrayType} {a0 : vp_A} (harr : Cond.arrayClass (newarray.typeOf atype) ∈ zT) (hta : (ztys g)[tk - 1]? = some (gA g tk, newarray.typeOf atype)) (hra : ∀ U cA, va_RA U cA (newarray.typeOf atype) → U.vm.findClass ("[" ++ (newarray.typeOf atype).toString) = some cA)
    (h1 : cellE g E E.2.1 (D E.2.1) = .inl (gA g tk, a0)) (h2 : ∀ cA, vp_cell cA a0 = arrV cA n (fun _ => defaultValue (newarray.typeOf atype))) (hx : ¬ Int32.ofInt x < 0 ∧ (Int32.ofInt x).toNatClampNeg = n ∧ n * componentBytes (newarray.typeOf atype) ≤ 536870912)
    (d : decode (mC M) pc = .ok (.newarray atype, 2)) (hE : E.2.2) (hz : ∀ j, D E.2.1 j = 0) (hcs : ca + 1 ≤ mc ∧ sa + n ≤ ms)
    (kk : Zg g M mc ms Q (pc + 2) L (vR E.2.1 :: st) (eP E) D (ca + 1) (sa + n)) : Zg g M mc ms Q pc L (vI x :: st) E D ca sa := by
  intro p l e R s m args below meth c X hR H locs ls hH hS hl' hL hs
  have hts := X.2.2.2.2.2.1
  have hK := X.2.2.2.2.2.2.2.2.1
  have hsz := hH.2.2.1 hE
  refine va_newaK X.1 X.2.1 (hts _ harr) rfl d rfl hx.1 hx.2.1 hx.2.2 (by omega) (by omega) hsz fun H1 cA e1 z1 o1 _ fc => ?_
  refine kk p l e R s m args below meth c X hR H1 locs ls (hp_push hH hE ?_ (by rw [z1, hsz]) (fun q hq => o1 q (by omega)) hz) ⟨Nat.le_trans hS.1 (by omega), fun x h1 h2 => (o1 x (by have := hS.1; omega)).trans (hS.2.1 x h1 h2), hS.2.2⟩ hl' hL (okc (v := vR _) trivial (ok1 hs).2)
  rw [h1]
  have e2 : cA = gA g tk := Option.some.inj (fc.symm.trans (hra _ _ (hK.2 _ _ hta).2))
  show H1[gB g + E.2.1]? = some (vp_cell (gA g tk) a0)
  rw [h2, ← e2]
  exact e1
theorem q_newref {n t index : Nat} {x : Int} {C : String} (hC : C = "SpeedKernel$Natural" ∨ C = "SpeedKernel$Fraction") (hcl : Cond.classLink (mY M).cls index C ∈ zT) {k0 : Nat} (hta : (ztys g)[k0]? = some (gA g (zra t).1, .object C)) (ha : zk E.2.1 = (5, n, t)) (hf : ∀ k, E.1 E.2.1 k = false) (hx : ¬ Int32.ofInt x < 0 ∧ (Int32.ofInt x).toNatClampNeg = n ∧ n * 4 ≤ 536870912)
    (d : decode (mC M) pc = .ok (.anewarray index, 3)) (hE : E.2.2) (hz : ∀ j, D E.2.1 j = 0) (hcs : ca + 1 ≤ mc ∧ sa + n ≤ ms)
    (kk : Zg g M mc ms Q (pc + 3) L (vR E.2.1 :: st) (eP E) D (ca + 1) (sa + n)) : Zg g M mc ms Q pc L (vI x :: st) E D ca sa := by
  intro p l e R s m args below meth c X hR H locs ls hH hS hl' hL hs
  have hts := X.2.2.2.2.2.1
  have hKn := X.2.2.2.2.2.2.2.2
  have hK := hKn.1
  have hsz := hH.2.2.1 hE
  obtain ⟨x1, x2, x3⟩ := hx
  refine W.anew X.1 X.2.1 X.2.2.2.2.1 (hts _ hcl) (va_AO.use (hKn.2.2.1 C hC)) rfl d rfl x1 (by rw [x2]; exact x3) (by omega) (by rw [x2]; omega) fun cA kA comp f1 f2 f3 f4 => ?_
  rw [x2]
  generalize hH1 : H.push ({ cls := cA, slots := Array.replicate n .null, vm := .none } : Cell) = H1
  have z1 : H1.size = H.size + 1 := by rw [← hH1, Array.size_push]
  have e1 : H1[H.size]? = some (arrV cA n (fun _ => .null)) := by rw [← hH1, Array.getElem?_push_size, ← arrV_new]
  have o1 : ∀ q : Nat, q < H.size → H1[q]? = H[q]? := fun q hq => by rw [← hH1, Array.getElem?_push, if_neg (Nat.ne_of_lt hq)]
  rw [hsz] at e1 ⊢
  refine kk p l e R s m args below meth c X hR H1 locs ls (hp_push hH hE ?_ z1 o1 hz) ⟨Nat.le_trans hS.1 (by omega), fun x h1 h2 => (o1 x (by have := hS.1; omega)).trans (hS.2.1 x h1 h2), hS.2.2⟩ hl' hL (okc (v := vR _) trivial (ok1 hs).2)
  rw [cell_5 ha]
  obtain ⟨kA', comp', g1, g2, g3, g4⟩ := (hK.2 _ _ hta).2
  have e2 : cA = gA g (zra t).1 := Option.some.inj (f1.symm.trans g4)
  show H1[gB g + E.2.1]? = some (vp_cell (gA g (zra t).1) _)
  rw [e1, ← e2]
  simp only [hf]
  rfl
/-- a reference that is set -/
def eS (E : EE) (a k : Nat) : EE := (fun i j => if i = a ∧ j = k then true else E.1 i j, E.2)
theorem cellE_congr {E E' : EE} {b : Nat} {row : Int → Int} (h : E'.1 b = E.1 b) : cellE g E' b row = cellE g E b row := by
  unfold cellE fval
  rw [h]
theorem eS_ne {a b k : Nat} (h : b ≠ a) : (eS E a k).1 b = E.1 b := funext fun j => if_neg fun q => h q.1
theorem q_putRF {ci k N index off : Nat} {C : String} {T : u_T} {a b : Nat} (hc : ZC ci C T N) (hl : Cond.fieldLink (mY M).cls index (T k).1 (T k).2.1 (T k).2.2.1 ∈ zT) (hk : k < N ∧ zft ci k = (2, off) ∧ (T k).2.2.2 = true) (hi : (mY M).name = "<init>") (hdecl : (T k).1 = (mY M).cls) {ty : FieldType} (hd : parseFieldDescriptor (T k).2.2.1 = some ty) (hnr : ∀ x : Nat, narrow ty (.ref x) = .ref x) (hft : ∀ x : Nat, fits ty (.ref x) = true)
    (d : decode (mC M) pc = .ok (.putfield index, 3)) (ha : zk a = (0, ci, 0)) (hn : a < E.2.1) (hb : b = a + off)
    (kk : Zg g M mc ms Q (pc + 3) L st (eS E a k) D ca sa) : Zg g M mc ms Q pc L (vR b :: vR a :: st) E D ca sa := by
  subst hb
  obtain ⟨hk, hf, hfin⟩ := hk
  intro p l e R s m args below meth c X hR H locs ls hH hS hl' hL hs
  obtain ⟨ty0, hty⟩ := hc.2.2.2.1
  have hts := X.2.2.2.2.2.1
  have hown := X.2.2.2.2.1
  have hin2 := X.2.2.2.2.2.2.2.1 hi
  have hK := X.2.2.2.2.2.2.2.2.1
  have hap := va_apart (own := (mY M).cls) hts hc.2.2.1 ty0 hty hc.2.2.2.2 hK hc.1
  have he := hH.1 a _ (wld_get hn)
  rw [cell_O ha] at he
  obtain ⟨r, h1, cell, q1, q2, q3, q4⟩ := he
  have hr : r = (C, T, N) := Option.some.inj (h1.symm.trans hc.1)
  subst hr
  obtain ⟨hSl, hfc, kC, hkC, hkind⟩ := hK.1 ci _ hc.1
  obtain ⟨cf, kf, fi, f, hi0, hsl⟩ := hSl k hk
  have hlay := hts _ (hc.2.2.1 _ (u_in_lay hk))
  unfold u_lay at hlay
  rw [if_pos hfin] at hlay
  have hst := (u_facts hfc hkC (u_lays hts hc.2.2.1 hk) hi0).1
  have hcf : m.cls = cf := by
    obtain ⟨_, _, c', _, _, _, -, -, hf', -, -, -, hown2, -⟩ := Cond.laysFinal_spec hlay
    have e1 : c' = cf := by have := hi0.symm.trans hf'; simp at this; exact this.1.symm
    rw [hdecl] at hown2
    rw [← e1]; exact Option.some.inj (hown.symm.trans hown2)
  have h6 := u_fits (v := .ref (gB g + (a + off))) hfc hkC hkind (Or.inr hlay) hi0 hd (hnr _) (hft _)
  refine W.putFinK (v := .ref (gB g + (a + off))) X.1 X.2.1 hown (hts _ hl) hi0 hst hcf hin2 (by rw [q2]; exact h6) q1 q3 (by rw [hsl]; exact k2_hasslot (q4 k hk)) rfl rfl d fun H' e1 e2 e3 => ?_
  rw [hsl] at e1 ⊢
  refine kk p l e R s m args below meth c X hR H' _ ls ⟨?_, by rw [e2]; exact hH.2.1, fun t => by rw [e2]; exact hH.2.2.1 t, hH.2.2.2⟩ (hS.put e2 e3 (by show gB g ≤ gB g + a; omega)) hl' hL (ok2 hs).2.2
  refine put_world (H := H) hc hk ha hn hH q2 q3 q4 hap e1 e3 rfl (fun j hj => ?_) (fun b hb _ => cellE_congr (eS_ne hb))
  by_cases hjk : j = k
  · subst hjk
    rw [if_pos rfl]
    exact fval_R hf (if_pos ⟨rfl, rfl⟩)
  · rw [if_neg hjk]
    unfold fval
    split
    · rw [show (eS E a k).1 a j = E.1 a j from if_neg fun q => hjk q.2]
    · rfl
theorem q_objI {index : Nat} {a : Nat} (hl : Cond.methodLink (mY M).cls index Lib.objectInit ∈ zT) (hin : Cond.instanceMethod Lib.objectInit ∈ zT) (hco : Cond.code Lib.objectInit ⟨#[0xb1]⟩ 1 none ∈ zT) (d : decode (mC M) pc = .ok (.invokespecial index, 3)) (hk : 1 ≤ mdp M ∧ zcats st ≤ 8)
    (kk : Zg g M mc ms Q (pc + 3) L st E D ca sa) : Zg g M mc ms Q pc L (vR a :: st) E D ca sa := by
  intro p l e R s m args below meth c X hR H locs ls hH hS hl' hL hs
  have hts := X.2.2.2.2.2.1
  refine W.objInit (g := F0 m pc ls ((vR a :: st).map (val g))) X.1 X.2.1 X.2.2.2.2.1 (hts _ hl) (hts _ hin) (hts _ hco) rfl (by rw [X.2.2.1]; exact hl'.1) rfl d (by omega) ?_ ?_
  · rw [zcats_sum]
    show 2 * 0 + zcats st + 12 ≤ R.locals
    have := hR.2.1
    omega
  · exact kk p l e R s m args below meth c X hR H locs ls hH hS hl' hL (ok1 hs).2
/-- an element that is set -/
theorem q_aast {n t a b i ci : Nat} {r : vw_C} {k0 : Nat} (hc : zcl[ci]? = some r) (hta : (ztys g)[k0]? = some (gA g (zra t).1, .object r.1)) (d : decode (mC M) pc = .ok (.aastore, 1)) (ha : zk a = (5, n, t)) (hn : a < E.2.1) {x : Nat} (hb : zk b = (0, ci, x)) (hbn : b < E.2.1) (hbe : b = a + (zra t).2.1 + (zra t).2.2 * i) (hi : i < n ∧ n ≤ 1000)
    (kk : Zg g M mc ms Q (pc + 1) L st (eS E a i) D ca sa) : Zg g M mc ms Q pc L (vR b :: vI i :: vR a :: st) E D ca sa := by
  intro p l e R s m args below meth c X hR H locs ls hH hS hl' hL hs
  have hK := X.2.2.2.2.2.2.2.2.1
  have hx := ix_in (i := (i : Int)) (n := n) (by omega) (ok2 hs).2.1
  rw [Int.toNat_natCast] at hx
  obtain ⟨x1, x2⟩ := hx
  have hlt : (Int32.ofInt i).toNatClampNeg < n := by rw [x2]; exact hi.1
  have h0 : ¬ Int32.ofInt i < 0 := fun q => x1 (Or.inl q)
  have hva := hH.1 a _ (wld_get hn)
  rw [cell_5 ha] at hva
  have hvb := hH.1 b _ (wld_get hbn)
  rw [cell_O hb] at hvb
  obtain ⟨r', hr', cellV, g1, g2, g3, -⟩ := hvb
  have hcls := (hK.1 ci r hc).2
  obtain ⟨kA, comp, k1, k2, k3, -⟩ := (hK.2 k0 _ hta).2
  have hcomp : comp = (gD g).1 ci := Option.some.inj (k3.symm.trans hcls.1)
  subst hcomp
  obtain ⟨kC, hkC, -⟩ := hcls.2
  refine W.aast X.1 X.2.1 hva (fun q h => by cases h) (fun h => by cases h) k1 k2 rfl hkC ⟨h0, by show _ < (arrV _ _ _).slots.size; rw [arrV_size]; exact hlt⟩ g1 (fun q h => by rw [g3] at h; cases h) (by rw [g2]; exact hkC) (by rw [g2]; exact va_assign hcls) rfl rfl d fun H1 e1 z1 oq => ?_
  refine kk p l e R s m args below meth c X hR H1 _ ls ⟨fun j q hj => ?_, by rw [z1]; exact hH.2.1, fun t => by rw [z1]; exact hH.2.2.1 t, hH.2.2.2⟩ (hS.put z1 oq (by show gB g ≤ gB g + a; omega)) hl' hL (ok2 (ok1 hs).2).2.2
  have hjl : j < E.2.1 := by
    have := (List.getElem?_eq_some_iff.mp hj).1
    unfold wld at this
    rwa [List.length_map, List.length_range] at this
  rw [wld_get (E := eS E a i) hjl] at hj
  cases hj
  by_cases hja : j = a
  · subst hja
    rw [cell_5 ha]
    show H1[gB g + j]? = some (vp_cell _ _)
    rw [e1, vp_cell_q, vp_cell_q, arrV_store, x2]
    congr 2
    funext q
    by_cases hq : q = i
    · subst hq
      rw [show (eS E j q).1 j q = true from if_pos ⟨rfl, rfl⟩]
      simp only [updV, if_pos]
      rw [hbe]
      rfl
    · rw [show (eS E j i).1 j q = E.1 j q from if_neg fun z => hq z.2]
      simp only [updV, if_neg hq]
  · rw [cellE_congr (eS_ne hja)]
    exact va_at.kept (hH.1 j _ (wld_get hjl)) (oq _ (by show gB g + j ≠ gB g + a; omega))
end MAKE2
