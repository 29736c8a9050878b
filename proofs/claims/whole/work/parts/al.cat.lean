/-! split and step of the law: what is thrown is caught -/
section CAT
variable {g : GG} {M M' : MI} {mc ms : Nat} {pc : Nat} {L st : List VV} {D D' : DD} {ca sa : Nat} {K : KZ} {F : FZ} {a b c : Int}
theorem decl_of {args : Array Value} {s : State} {y : MethodName} {bytes : ByteArray} {n : Nat} {ret : Option FieldType} (hi : (Cond.instanceMethod y).before args s = true) (hc : (Cond.code y bytes n ret).before args s = true) : (Cond.declares y).before args s = true := by
  obtain ⟨mk, meth, h1, h2, h3, -⟩ := Cond.instanceMethod_spec hi
  obtain ⟨meth', c', h2', -, -, -, -, -, -, hs⟩ := Cond.code_spec h1 hc
  cases h2.symm.trans h2'
  simp [Cond.before, Cond.holds, Cond.value, h1, h2, h3, hs]
/-- what is known of a run of a method that catches -/
def KW (g : GG) (hh : List (Nat × Nat × Nat × Nat)) : KZ := fun p l e R s m args below meth c => l.flags = flags0 ∧ c.exceptionTable.toList.map (fun h => (h.startPc, h.endPc, h.handlerPc, h.catchType)) = hh ∧ IR g s
def ATw (g : GG) (M : MI) (hh : List (Nat × Nat × Nat × Nat)) (as : List VV) (D : DD) (Q : Option VV → EE → DD → Prop) : Prop :=
  ∀ l : Launch, l.flags = flags0 → Met l (mY M) (Cond.codeWith (mY M) (mC M) (mL M) (mR M) hh :: zT) (zrm M 1 6) (zPt g as D) (Qp g Q) 1 6 (zfr g)
theorem atw_intro {as L0 : List VV} {hh : List (Nat × Nat × Nat × Nat)} {Q : Option VV → EE → DD → Prop} (hp : plainName (mY M).cls = true) (hL : (entL as).length ≤ mL M) (h0 : ent as (mL M) = L0) (h : Zf (zfr g) (KW g hh) (FQ g Q 1 6) g M 1 6 0 L0 [] zE D 0 0) : ATw g M hh as D Q := by
  subst h0
  intro l hfl
  refine va_MetW (cc := mC M) (maxL := mL M) (ret := mR M) (hh := hh) hp rfl ?_
  intro p e s m args below meth c s₁ B hml hv
  obtain ⟨⟨rfl, hok, hH, hK⟩, hir⟩ := hv
  have hts0 := atoms_spec (ws := Cond.codeWith (mY M) (mC M) (mL M) (mR M) hh :: zT) B.pre
  have hts : ∀ w ∈ zT, w.before (as.map (val g)).toArray s = true := fun w hw => hts0 w (List.mem_cons_of_mem _ hw)
  have htb : c.exceptionTable.toList.map (fun h => (h.startPc, h.endPc, h.handlerPc, h.catchType)) = hh := by
    obtain ⟨m9, meth', c', hn9, hm', hc', -, -, ht, -⟩ := Cond.codeWith_spec (hts0 _ List.mem_cons_self)
    cases B.named.symm.trans hn9
    cases B.method.symm.trans hm'
    cases (Stand.of_body B).code.symm.trans hc'
    exact ht
  rw [lg_entry_eq]
  exact h p l e (headSpec (Cond.codeWith (mY M) (mC M) (mL M) (mR M) hh :: zT) (zrm M 1 6)).room s m _ below meth c ⟨B.exec, B.bytes, hml, B.returns, findClass_of_methodNamed B.named, hts, B.notSynchronized, fun hn => ((name_of_methodNamed B.named B.method).1).trans hn, hK⟩
    ⟨⟨Nat.le_refl _, Nat.le_refl _, Nat.le_refl _, Nat.le_refl _⟩, hfl, htb, hir⟩ s.heap [] _ hH va_S.rf (ent_rel hL) (fun v hv => by
      rcases List.mem_append.mp hv with h | h
      · exact ok_entL hok v h
      · rw [(List.mem_replicate.mp h).2]; exact ok_vU) (fun v h => by cases h)
def PostT (g : GG) (X : String) (D : DD) : Pt → Array Value → Addr → Pt → Prop := fun A a v B =>
  ∃ (f : JFrame) (mk : MethodId) (t : State) (L : List Loc), B.U.heap = t.heap ∧ B.U.vm = t.vm ∧ TQ g X D a (A.U.calling f mk a) (.threw v) t ∧ B.locs = A.locs ++ L ∧ (∀ q ∈ L, zfr g q.base) ∧ B.cells = A.cells + 1 ∧ B.slots = A.slots + 6
theorem back_t {n : Nat} {X : String} {as : List VV} {l : Launch} {R : Room} {p : Program} {e : Env} {below : List Frame} {s : State} {sargs : Array Value} (hfl : l.flags = flags0) (hM : MOK M' n) (hA : ATt g M' X as D) (hts : ∀ w ∈ zT, w.before sargs s = true) (hfr : mdp M' + 1 ≤ R.frames) (hlo : 8 + (mL M' + 11) + 48 * mdp M' ≤ R.locals) :
    BackT l R p e below s sargs (mY M') 3 8 (PreOf R 1 6 (zPt g as D)) (PostT g X D) := by
  have hgi := goodIn_ws hM.1
  refine BackT.of_free (S := headSpec (zws M') (zrm M' 1 6)) (P := zPt g as D) (K := fun _ _ _ _ _ => True) (Q := fun a st o t => TQ g X D a st o t ∧ ∃ L, FrameEndT st o t L 1 6 ∧ ∀ q ∈ L, zfr g q.base) (bytes := mC M') (maxL := mL M') (ret := mR M')
    (E := fun a st o t L k n => k = 1 ∧ n = 6 ∧ ∀ q ∈ L, zfr g q.base) (hA l hfl) hfr hlo ?_ ?_ (fun _ _ _ _ _ _ _ _ _ => trivial) ?_ ?_
  · intro m meth c A a X hp
    have go : ∀ w ∈ zws M', w.before a A.U = true := fun w hw => word_at X.warmed (hgi w hw).2 (hts _ (hgi w hw).1)
    exact ⟨atoms_intro go, go _ List.mem_cons_self, word_at X.warmed (Or.inl (by first | rfl | simp [Cond.onTables, Cond.keeps, Cond.steady])) (hts _ hM.2.1), hp.1, hp.2.1⟩
  · intro m meth c A a g' mk X hp
    exact ⟨blind_Pc a A.U g' mk hp.2.2.1, hp.2.2.2.moved (State.WarmedH.refl A.U) (fun _ _ => rfl)⟩
  · intro a st o t ⟨hq, L, hF, hL⟩
    exact ⟨L, 1, 6, hF, rfl, rfl, hL⟩
  · intro m meth c A a g' mk v t L k n X hp hq hF ⟨e1, e2, hL⟩
    subst e1; subst e2
    exact ⟨g', mk, t, L, rfl, rfl, hq.1, rfl, hL, rfl, rfl⟩
/-- a call that throws, caught in the caller -/
theorem f_callT {n index ci N : Nat} {C X : String} {T : u_T} {a : Nat} {as stk : List VV} {hh : List (Nat × Nat × Nat × Nat)} {hpc ct : Nat} (hM : MOK M' n) (hV : MVV M') (hl : Cond.methodLink (mY M).cls index (mY M') ∈ zT) (hc : ZC ci C T N) (hC : (mY M').cls = C) (d : decode (mC M) pc = .ok (.invokevirtual index, 3)) (hk : callok M M' st = true) (hn : as.length = n) (hstk : stk = as.reverse ++ vR a :: st)
    (ha : zk a = (0, ci, 0)) (hna : a < zE.2.1) (hcs : ca + 1 ≤ mc ∧ sa + 6 ≤ ms) (hA : ATt g M' X (vR a :: as) D) (hcast : Cond.castable X X ∈ zDc)
    (hT : ∀ tbl : List ExceptionTableEntry, tbl.map (fun h => (h.startPc, h.endPc, h.handlerPc, h.catchType)) = hh → ∃ pre x rest, tbl = pre ++ x :: rest ∧ x.handlerPc = hpc ∧ x.catchType = ct ∧ covers x pc = true ∧ ∀ y ∈ pre, y.catchType ≠ 0 ∧ ∃ nm, Cond.classLink (mY M).cls y.catchType nm ∈ zT ∧ ∀ U : State, NC U → ∃ cx t, U.vm.findClass X = some cx ∧ U.vm.findClass nm = some t ∧ U.vm.assignable cx t = false)
    (hct : ct ≠ 0 ∧ Cond.classLink (mY M).cls ct X ∈ zT)
    (kk : ∀ x : Nat, Zf (zfr g) (KW g hh) F g M mc ms hpc L [vR x] zE D (ca + 1) (sa + 6)) : Zf (zfr g) (KW g hh) F g M mc ms pc L stk zE D ca sa := by
  subst hstk
  intro p l e R s m args below meth c X' hR H locs ls hH hS hl' hL hs
  obtain ⟨hR1, hfl, htb, hir⟩ := hR
  have hts := X'.2.2.2.2.2.1
  obtain ⟨hsa, hss⟩ := ok_split hs
  rw [map_rev]
  subst hC
  intro T0 hT0 X0
  have hpl : e.platform.magicAccessors = ({} : Platform).magicAccessors := by rw [X0.admits.platform]
  have hsr := callok_R (mc' := 1) (ms' := 6) hk hR1
  have hpreP := pre_call X' hH hS hsa
  have h0 : gB g ≤ s.heap.size := X'.2.2.2.2.2.2.2.2.2.2.2.2.2
  have irU : ∀ U : State, U.heap = H → s.WarmedH U.vm → IR g U := fun U hU hW => hir.moved hW (fun q hq => by
    rw [hU]; exact hS.2.1 q (Nat.lt_of_lt_of_le hq h0) (by show ¬ gB g ≤ q; omega))
  have hKB : BackT l R p e below s args (mY M') 3 8 (PreOf R 1 6 (zPt g (vR a :: as) D)) (PostT g X D) := back_t hfl hM hA hts hsr.1 hsr.2
  obtain ⟨cellB, hcB, hoB, hclB⟩ := zrecv_of hc X'.2.2.2.2.2.2.2.2.1 hH ha hna
  have hnf : NotFace s (mY M') := by
    intro r0 hr0
    obtain ⟨c2, r2, m2, q1, q2, q3, q4, kP, hkP, hkPi⟩ := Cond.selects_spec (hts _ hV.2)
    cases hr0.symm.trans q3
    exact ⟨kP, hkP, hkPi⟩
  obtain ⟨v, vm₁, ⟨U, l2, c2, s2⟩, hW₁, XB, hpost, hst⟩ := X0.virtualThrows X'.1 (own := (mY M).cls) (C := (mY M').cls) (index := index) (y := mY M') (z := mY M') X'.2.2.2.2.1 (hts _ hl) (decl_of (hts _ hV.1) (hts _ hM.1)) hnf (hts _ hV.2) (hts _ hV.1) ⟨hM.2.2.2.1, hM.2.2.2.2.1⟩ hKB (b := gB g + a) hclB ⟨cellB, by rw [hT0]; exact hcB, rfl, hoB⟩
    (g := F0 m pc ls ((as.map (val g)).reverse ++ val g (vR a) :: st.map (val g))) rfl (hl'.1.trans X'.2.2.1.symm) (Steps.refl _) (argsL := as.map (val g)) (rest := st.map (val g))
    (fun sig h => by
      have h2 := hM.2.2.2.2.2
      rw [h] at h2
      rw [List.length_map, hn]
      exact (Option.some.inj h2).symm) rfl (callok_W (m := m) (pc := pc) (ls := ls) (st0 := (as.map (val g)).reverse ++ val g (vR a) :: st.map (val g)) hk) (by rw [X'.2.1]; exact d)
    (fun vm₁ hW₁ => ⟨Nat.le_trans hcs.1 hR1.2.2.1, Nat.le_trans hcs.2 hR1.2.2.2, hpreP (T0.setVm vm₁) hT0 hW₁, irU (T0.setVm vm₁) hT0 hW₁⟩)
  obtain ⟨gg, mk, t, L1, e1, e2, ⟨a', ce, ho, hsz, hce, hcX, hobj, hHp, hF⟩, h1, hL1, h2, h3⟩ := hpost
  dsimp only [Pt.U, Pt.locs, Pt.cells, Pt.slots] at XB e1 e2 h1 h2 h3 hcX hsz hF hst
  subst h1; subst h2; subst h3
  obtain rfl : v = a' := by injection ho
  have hheap : ((T0.setVm vm₁).calling gg mk (Value.ref (gB g + a) :: as.map (val g)).toArray).heap = H := hT0
  have hcs' : s.vm.findClass X = some ce.cls := by rw [← hW₁.alike.findClass]; exact hcX
  obtain ⟨c3, cT, hc3, hcT, hasg⟩ := Cond.castable_spec (hir.2.2.1 _ hcast)
  cases hcs'.symm.trans hc3
  obtain ⟨pre, x, rest, hsplit, hx1, hx2, hx3, hpass⟩ := hT _ htb
  subst hx1; subst hx2
  obtain ⟨hend, hk0⟩ := XB.catches_of_link (x := x) X'.2.2.2.2.1 hct.1 (hts _ hct.2) hcT hasg
  obtain ⟨vm2, XV, stV⟩ := XB.thenCaughtThrough v (g := F0 m pc ls (st.map (val g))) rfl hst (cell := ce) (by rw [e1]; exact hce) hobj hk0 pre x rest hsplit (fun y hy => by
    obtain ⟨hy0, nm, hlk, hnc⟩ := hpass y hy
    obtain ⟨c', hc', hcl⟩ := Cond.classLink_spec X'.2.2.2.2.1 (hts _ hlk) e.platform hpl
    obtain ⟨cx, t', q1, q2, q3⟩ := hnc s hir.2.2.2
    cases hcs'.symm.trans q1
    cases hc'.symm.trans q2
    exact Or.inr ⟨hy0, c', hcl, q3⟩) hx3 hend
  have hv : gB g ≤ v := by
    have : H.size ≤ v := by rw [← hheap]; exact hsz
    have := hS.1
    omega
  have sz : H.size ≤ U.heap.size := by rw [e1, ← hheap]; exact hF.1
  have same : ∀ q, q < H.size → ¬ zfr g q → U.heap[q]? = H[q]? := fun q hq hn => by
    have := hF.2 q (by rw [hheap]; exact hq) hn
    rw [hheap] at this
    rw [e1]; exact this
  have hS' : va_S (zfr g) s.heap U.heap (locs ++ L1) := ⟨Nat.le_trans hS.1 sz, fun q h1 h2 => by rw [same q (Nat.lt_of_lt_of_le h1 hS.1) h2]; exact hS.2.1 q h1 h2, fun q hq => by
    rcases List.mem_append.mp hq with h | h
    · exact hS.2.2 q h
    · exact hL1 q h⟩
  obtain ⟨t2, b1, b2⟩ := kk (v - gB g) p l e R s m args below meth c X' ⟨hR1, hfl, htb, hir⟩ U.heap (locs ++ L1) ls (by rw [e1]; exact hHp) hS' hl' hL (fun w hw => by
    rw [List.mem_singleton] at hw; rw [hw]; trivial) (U.setVm vm2) rfl XV
  have ev : gB g + (v - gB g) = v := by omega
  have e0 : ([vR (v - gB g)] : List VV).map (val g) = [Value.ref v] := by rw [List.map_cons, val_R, ev]; rfl
  rw [e0] at b1
  exact ⟨t2, stV.trans b1, b2⟩
def M_La_split : MI := (⟨"SpeedKernelLaw", "split", "(LSpeedKernel;[J)I"⟩, method_3_code, 3, (some .int), 13)
def M_La_step : MI := (⟨"SpeedKernelLaw", "step", "(LSpeedKernel;III[J)I"⟩, method_4_code, 6, (some .int), 13)
def hhS : List (Nat × Nat × Nat × Nat) := [(0, 8, 11, 13)]
def hhT : List (Nat × Nat × Nat × Nat) := [(0, 12, 15, 19), (0, 12, 19, 21)]
theorem cl_13 : Cond.classLink "SpeedKernelLaw" 13 "java/lang/IllegalStateException" ∈ zT := zT_mk 1202 (by decide +kernel) (by decide +kernel)
theorem cl_19 : Cond.classLink "SpeedKernelLaw" 19 "java/lang/IndexOutOfBoundsException" ∈ zT := zT_mk 1253 (by decide +kernel) (by decide +kernel)
theorem cl_21 : Cond.classLink "SpeedKernelLaw" 21 "java/lang/IllegalArgumentException" ∈ zT := zT_mk 1254 (by decide +kernel) (by decide +kernel)
theorem cw_split : Cond.codeWith (mY M_La_split) (mC M_La_split) (mL M_La_split) (mR M_La_split) hhS ∈ zT := zT_mk 1201 (by decide +kernel) (by decide +kernel)
theorem cw_step : Cond.codeWith (mY M_La_step) (mC M_La_step) (mL M_La_step) (mR M_La_step) hhT ∈ zT := zT_mk 1252 (by decide +kernel) (by decide +kernel)
theorem tb_1 {f : ExceptionTableEntry → Nat × Nat × Nat × Nat} {tbl : List ExceptionTableEntry} {q : Nat × Nat × Nat × Nat} (h : tbl.map f = [q]) : ∃ x, tbl = [x] ∧ f x = q := by
  match tbl, h with
  | [x], h => exact ⟨x, rfl, by simpa using h⟩
theorem tb_2 {f : ExceptionTableEntry → Nat × Nat × Nat × Nat} {tbl : List ExceptionTableEntry} {q q2 : Nat × Nat × Nat × Nat} (h : tbl.map f = [q, q2]) : ∃ x y, tbl = [x, y] ∧ f x = q ∧ f y = q2 := by
  match tbl, h with
  | [x, y], h => exact ⟨x, y, rfl, by simpa using h⟩
end CAT
