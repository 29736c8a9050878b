/-! what throws: an exception is a cell outside the world -/
section IRS
variable {g : GG} {n d : String} {U U' : State}
/-- a static field of Throwable, that nobody writes -/
def IRs (n d : String) (g : GG) (U : State) : Prop := ∃ (c : ClassId) (k : Class) (i : Nat) (f : Field) (a : Nat) (cell : Cell), U.vm.findClass "java/lang/Throwable" = some c ∧ U.fieldFound? "java/lang/Throwable" n d = some (c, k, i, f) ∧ f.isStatic = true ∧ k.statics = some a ∧ U.heap[a]? = some cell ∧ cell.vm.isStatics = true ∧ cell.cls = c ∧ f.slot < cell.slots.size ∧ k.staticTypes[f.slot]? = some f.type ∧ (∃ v, cell.slots[f.slot]? = some v ∧ v.isRef = true) ∧ a < gB g
theorem IRs.of {args : Array Value} {s : State} (hl : (Cond.laysStatic "java/lang/Throwable" n d).before args s = true) (hr : (Cond.isRef (.static "java/lang/Throwable" n d)).before args s = true) (hs : s.heap.size ≤ gB g) : IRs n d g s := by
  obtain ⟨c, k, i, f, a, cell, h1, h2, h3, h4, h5, h6, h7, h8, h9⟩ := Cond.laysStatic_spec hl
  obtain ⟨v, hv, hvr⟩ := Cond.isRef_spec hr
  have he : (Term.static "java/lang/Throwable" n d).eval args s none [] s = cell.slots[f.slot]? := by simp [Term.eval, State.fieldNamed?, h2, h3, h4, h5, h6]
  exact ⟨c, k, i, f, a, cell, h1, h2, h3, h4, h5, h6, h7, h8, h9, ⟨v, he ▸ hv, hvr⟩, Nat.lt_of_lt_of_le (Array.getElem?_eq_some_iff.mp h5).1 hs⟩
theorem IRs.moved (hvm : U.vm.Alike U'.vm) (hq : ∀ q, q < gB g → U'.heap[q]? = U.heap[q]?) (h : IRs n d g U) : IRs n d g U' := by
  obtain ⟨c, k, i, f, a, cell, h1, h2, h3, h4, h5, h6, h7, h8, h9, h10, h11⟩ := h
  obtain ⟨k', hi', he⟩ := State.fieldFound?_setVm hvm h2
  exact ⟨c, k', i, f, a, cell, by rw [hvm.findClass]; exact h1, hi', h3, by rw [he]; exact h4, by rw [hq a h11]; exact h5, h6, h7, h8, by rw [he]; exact h9, h10, h11⟩
theorem IRs.lays {args : Array Value} (h : IRs n d g U) : (Cond.laysStatic "java/lang/Throwable" n d).before args U = true := by
  obtain ⟨c, k, i, f, a, cell, h1, h2, h3, h4, h5, h6, h7, h8, h9, _⟩ := h
  simp [Cond.before, Cond.holds, Cond.value, h1, h2, h3, h4, h5, h6, h7, h8, h9]
theorem IRs.ref {args : Array Value} (h : IRs n d g U) : (Cond.isRef (.static "java/lang/Throwable" n d)).before args U = true := by
  obtain ⟨c, k, i, f, a, cell, h1, h2, h3, h4, h5, h6, h7, h8, h9, ⟨v, hv, hr⟩, _⟩ := h
  have he : (Term.static "java/lang/Throwable" n d).eval args U none [] U = some v := by simp [Term.eval, State.fieldNamed?, h2, h3, h4, h5, h6, hv]
  cases v <;> simp_all [Cond.before, Cond.holds, Cond.value, Value.isRef]
def zDc : List Cond := [.declares ⟨"java/lang/RuntimeException", "<init>", "()V"⟩, .declares ⟨"java/lang/Exception", "<init>", "()V"⟩, .declares ⟨"java/lang/Throwable", "<init>", "()V"⟩, .castable "java/lang/IllegalStateException" "java/lang/IllegalStateException", .castable "java/lang/IllegalArgumentException" "java/lang/IllegalArgumentException", .castable "java/lang/IndexOutOfBoundsException" "java/lang/IndexOutOfBoundsException"]
theorem dc_move {args args' : Array Value} (hW : U.WarmedH U'.vm) : ∀ w ∈ zDc, w.before args U = true → w.before args' U' = true := by
  intro w hw h
  simp only [zDc, List.mem_cons, List.not_mem_nil, or_false] at hw
  rcases hw with rfl | rfl | rfl | rfl | rfl | rfl
  all_goals
    have h1 := Cond.before_shiftedFace (State.Shifted.of_warmed hW) _ rfl h
    exact h1
/-- the one exception is none of the other -/
def NC (U : State) : Prop := ∃ c t : ClassId, U.vm.findClass "java/lang/IllegalArgumentException" = some c ∧ U.vm.findClass "java/lang/IndexOutOfBoundsException" = some t ∧ U.vm.assignable c t = false
theorem NC.moved (hW : U.WarmedH U'.vm) (h : NC U) : NC U' := by
  obtain ⟨c, t, h1, h2, h3⟩ := h
  exact ⟨c, t, by rw [hW.alike.findClass]; exact h1, by rw [hW.alike.findClass]; exact h2, by rw [hW.alike.assignable]; exact h3⟩
theorem NC.of {args : Array Value} (h : (Cond.not (.castable "java/lang/IllegalArgumentException" "java/lang/IndexOutOfBoundsException")).before args U = true) {c t : ClassId} (hc : U.vm.findClass "java/lang/IllegalArgumentException" = some c) (ht : U.vm.findClass "java/lang/IndexOutOfBoundsException" = some t) : NC U := by
  have hv := Cond.holds_not_iff.mp h
  simp only [Cond.value, hc, ht] at hv
  exact ⟨c, t, hc, ht, Option.some.inj hv⟩
def IR (g : GG) (U : State) : Prop := IRs "UNASSIGNED_STACK" "[Ljava/lang/StackTraceElement;" g U ∧ IRs "SUPPRESSED_SENTINEL" "Ljava/util/List;" g U ∧ (∀ w ∈ zDc, w.before #[] U = true) ∧ NC U
theorem IR.moved (hW : U.WarmedH U'.vm) (hq : ∀ q, q < gB g → U'.heap[q]? = U.heap[q]?) (h : IR g U) : IR g U' := ⟨h.1.moved hW.alike hq, h.2.1.moved hW.alike hq, fun w hw => dc_move hW w hw (h.2.2.1 w hw), h.2.2.2.moved hW⟩
def zSp : List Cond := [.laysStatic "java/lang/Throwable" "UNASSIGNED_STACK" "[Ljava/lang/StackTraceElement;", .laysStatic "java/lang/Throwable" "SUPPRESSED_SENTINEL" "Ljava/util/List;", .isRef (.static "java/lang/Throwable" "UNASSIGNED_STACK" "[Ljava/lang/StackTraceElement;"), .isRef (.static "java/lang/Throwable" "SUPPRESSED_SENTINEL" "Ljava/util/List;")] ++ zDc
theorem IR.sp {args : Array Value} (h : IR g U) : ∀ w ∈ zSp, w.before args U = true := by
  intro w hw
  rcases List.mem_append.mp hw with hw | hw
  · simp only [List.mem_cons, List.not_mem_nil, or_false] at hw
    rcases hw with rfl | rfl | rfl | rfl
    · exact h.1.lays
    · exact h.2.1.lays
    · exact h.1.ref
    · exact h.2.1.ref
  · exact dc_move (U := U) (U' := U) (State.WarmedH.refl U) w hw (h.2.2.1 w hw)
theorem own_mem {ws : List Cond} (ps : List Nat) (hl : ws.length = ps.length) (h : (ws.zip ps).all (fun q => (decide (lw_tbl[q.2]? = some q.1) && goodWord q.1) || decide (q.1 ∈ zSp)) = true) : ∀ w ∈ ws, w ∈ zT ∨ w ∈ zSp := by
  intro w hw
  obtain ⟨i, hi⟩ := List.mem_iff_getElem?.mp hw
  have hi1 := (List.getElem?_eq_some_iff.mp hi).1
  have hz : (w, ps[i]'(by omega)) ∈ ws.zip ps := by
    refine List.mem_iff_getElem?.mpr ⟨i, ?_⟩
    rw [List.getElem?_zip_eq_some]
    exact ⟨hi, List.getElem?_eq_getElem (by omega)⟩
  have := List.all_eq_true.mp h _ hz
  simp only [Bool.or_eq_true, Bool.and_eq_true, decide_eq_true_eq] at this
  rcases this with q | q
  · exact Or.inl (zT_mk _ q.1 q.2)
  · exact Or.inr q
def zUp : List String := ["java/lang/RuntimeException", "java/lang/Exception"]
theorem own_S : ∀ w ∈ Bundle.ownAtoms0 "SpeedKernel" 131 "java/lang/IllegalStateException" zUp, w ∈ zT ∨ w ∈ zSp := own_mem [82, 716, 725, 730, 733, 735, 717, 718, 103, 104, 719, 724, 731, 961, 706, 962, 708, 963, 710, 720, 0, 722, 0, 712, 1217, 1218, 1219, 1220, 697, 1220, 1221, 1222, 1223, 699, 1223, 1224, 1225, 717, 701, 1216, 1208, 1209, 1210, 728, 1211, 1212, 1213, 1214, 0, 0, 715, 714, 1215] (by decide +kernel) (by decide +kernel)
theorem ins_S : Cond.instantiable "java/lang/IllegalStateException" 6 ∈ zT ∧ Cond.initialized "java/lang/IllegalStateException" ∈ zT := ⟨zT_mk 1208 (by decide +kernel) (by decide +kernel), zT_mk 96 (by decide +kernel) (by decide +kernel)⟩
theorem own_A : ∀ w ∈ Bundle.ownAtoms0 "SpeedKernel" 137 "java/lang/IllegalArgumentException" zUp, w ∈ zT ∨ w ∈ zSp := own_mem [82, 716, 725, 730, 733, 735, 717, 718, 103, 104, 719, 724, 731, 961, 706, 962, 708, 963, 710, 720, 0, 722, 0, 712, 1261, 1262, 1263, 1220, 697, 1220, 1221, 1222, 1223, 699, 1223, 1224, 1225, 717, 701, 1260, 695, 696, 703, 704, 705, 707, 709, 711, 0, 0, 715, 714, 713] (by decide +kernel) (by decide +kernel)
theorem ins_A : Cond.instantiable "java/lang/IllegalArgumentException" 6 ∈ zT ∧ Cond.initialized "java/lang/IllegalArgumentException" ∈ zT := ⟨zT_mk 695 (by decide +kernel) (by decide +kernel), zT_mk 85 (by decide +kernel) (by decide +kernel)⟩
theorem own_B : ∀ w ∈ Bundle.ownAtoms0 "SpeedKernel" 143 "java/lang/IndexOutOfBoundsException" zUp, w ∈ zT ∨ w ∈ zSp := own_mem [82, 716, 725, 730, 733, 735, 717, 718, 103, 104, 719, 724, 731, 961, 706, 962, 708, 963, 710, 720, 0, 722, 0, 712, 1274, 1275, 1276, 1220, 697, 1220, 1221, 1222, 1223, 699, 1223, 1224, 1225, 717, 701, 1273, 1265, 1266, 1267, 729, 1268, 1269, 1270, 1271, 0, 0, 715, 714, 1272] (by decide +kernel) (by decide +kernel)
theorem ins_B : Cond.instantiable "java/lang/IndexOutOfBoundsException" 6 ∈ zT ∧ Cond.initialized "java/lang/IndexOutOfBoundsException" ∈ zT := ⟨zT_mk 1265 (by decide +kernel) (by decide +kernel), zT_mk 94 (by decide +kernel) (by decide +kernel)⟩
end IRS
section THR
variable {g : GG} {M M' : MI} {mc ms mc' ms' : Nat} {pc : Nat} {L st : List VV} {E : EE} {D : DD} {ca sa : Nat}
/-- it throws X, the world is as it was -/
def TQ (g : GG) (X : String) (D : DD) : Array Value → State → Outcome → State → Prop := fun _ st o t =>
  ∃ (a : Nat) (ce : Cell), o = .threw a ∧ st.heap.size ≤ a ∧ t.heap[a]? = some ce ∧ st.vm.findClass X = some ce.cls ∧ ce.vm.isStatics = false ∧ Hp g zE D t.heap ∧ va_F (zfr g) st t
def FTh (g : GG) (X : String) (D : DD) : FZ := fun args s below t => ∃ o, t.status = .running ∧ Ended t below o ∧ TQ g X D args s o t ∧ ∃ L, FrameEndT s o t L 1 6 ∧ ∀ q ∈ L, zfr g q.base
def KT (g : GG) (D : DD) : KZ := fun p l e R s m args below meth c => e.platform.stackTraces = false ∧ c.exceptionTable.toList = [] ∧ IR g s ∧ Hp g zE D s.heap
def nA : Nat → Prop := fun _ => False
def zPt (g : GG) (as : List VV) (D : DD) : Array Value → State → Prop := fun v U => zPc g as zE D v U ∧ IR g U
/-- the contract of a method that throws X from here -/
def ATt (g : GG) (M : MI) (X : String) (as : List VV) (D : DD) : Prop :=
  ∀ l : Launch, l.flags = flags0 → MetFree l (mY M) (headSpec (zws M) (zrm M 1 6)) (zPt g as D) (fun _ _ _ _ _ => True) (fun a st o t => TQ g X D a st o t ∧ ∃ L, FrameEndT st o t L 1 6 ∧ ∀ q ∈ L, zfr g q.base)
theorem f_throw {X : String} {idx ic : Nat} (hX : Bundle.fit X = true) (hw : ∀ w ∈ Bundle.ownAtoms0 (mY M).cls ic X zUp, w ∈ zT ∨ w ∈ zSp) (hi : Cond.instantiable X 6 ∈ zT ∧ Cond.initialized X ∈ zT) (hcl : Cond.classLink (mY M).cls idx X ∈ zT)
    (d0 : decode (mC M) pc = .ok (.new idx, 3)) (d3 : decode (mC M) (pc + 3) = .ok (.dup, 1)) (d4 : decode (mC M) (pc + 3 + 1) = .ok (.invokespecial ic, 3)) (d7 : decode (mC M) (pc + 3 + 1 + 3) = .ok (.athrow, 1)) (hd : 6 ≤ mdp M) : Zf nA (KT g D) (FTh g X D) g M 1 6 pc L [] zE D 0 0 := by
  intro p l e R s m args below meth c C hR H locs ls hH hS hl hL hs T hT X0
  obtain ⟨hR, htr, hex, hir, hH0⟩ := hR
  have hlk : meth.locks = false := C.2.2.2.2.2.2.1
  have hts := C.2.2.2.2.2.1
  obtain rfl : locs = [] := by
    cases locs with
    | nil => rfl
    | cons x xs => exact absurd (hS.2.2 x List.mem_cons_self) (fun q => q)
  obtain ⟨vm₁, cX, kX, hfX, hkX, -, -, X1, st1⟩ := X0.newCold C.1 (own := (mY M).cls) (C := X) (index := idx) (n := 6) C.2.2.2.2.1 (hts _ hcl) (hts _ hi.1) (hts _ hi.2) (g := F0 m pc ls []) rfl (by rw [C.2.1]; exact d0) (by omega) (by omega)
  generalize hTT : (T.setVm vm₁).pushCell { cls := cX, slots := kX.instanceTypes.map defaultValue, vm := .none } = T1 at X1 st1
  have hcellA : T1.heap[T.heap.size]? = some (freshCell cX kX) := by rw [← hTT]; exact State.heap_pushCell_size _ _
  have hsz : s.heap.size ≤ T.heap.size := by rw [hT]; exact hS.1
  obtain ⟨U, hsteps, hrun, hend, hW, hsame, ce, hce, K⟩ := X1.ctorThrow0 C.1 htr (own := (mY M).cls) (cls := X) (names := zUp) (ic := ic) C.2.2.2.2.1 hX (by decide +kernel)
    (fun y hy => (hw y hy).elim (hts y) (hir.sp y)) (fun y hy => by cases hy) hfX hkX hcellA hsz
    (g := F0 m (pc + 3 + 1) ls [.ref T.heap.size, .ref T.heap.size]) rfl (hl.1.trans C.2.2.1.symm) rfl rfl (rest := []) rfl
    (by rw [C.2.1]; exact d4) (by rw [C.2.1]; exact d7) (by rw [hex]; exact fun x hx => by cases hx) (by show 2 + 3 < R.frames; omega) (by show 2 * 0 + 1 + (13 * (2 + 1) + 41) ≤ R.locals; omega)
  have keep : ∀ q, q < s.heap.size → U.heap[q]? = s.heap[q]? := fun q hq => by
    have h1 := hsame.kept_nil (a := q) (c := s.heap[q]) (Array.getElem?_eq_getElem hq)
    rw [Array.getElem?_eq_getElem hq]; exact h1
  have hsU : s.heap.size ≤ U.heap.size := hsame.2.1
  refine ⟨U, ?_, .threw T.heap.size, hrun, hend, ⟨T.heap.size, ce, rfl, hsz, hce, K.cls, by rw [K.vm]; rfl, ⟨?_, Nat.le_trans hH0.2.1 hsU, fun q => q.elim, hH0.2.2.2⟩, hsU, fun q hq _ => keep q hq⟩, [], ⟨⟨_, rfl⟩, hW, hsame⟩, fun q hq => by cases hq⟩
  · refine st1 _ ?_
    show Steps p.tables e below (T1.setTop { method := m, pc := pc + 3, locals := ls, stack := [.ref T.heap.size], locked := none }) _
    jvm_step X1.here [X1.here.top, C.1, C.2.1, d3, Value.category]
    exact hsteps
  · exact hH0.1.kept fun k q hk => keep _ (hH0.1 k q hk).lt
end THR
