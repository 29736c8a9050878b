/-! the start -/
def R_law : String := "SpeedKernelLaw"
def lw_P (b : Addr) (xs : List Int32) (args : Array Value) (s : State) : Prop := args = #[.ref b] ∧ s.IntsAt b xs ∧ xs.length ≤ 2560 ∧ (Jvm.Cond.and given_1 narrow_1).before args s = true
def lw_Q (_ : Array Value) (s : State) (o : Outcome) (t : State) : Prop := o = .returned (some (.int 1)) ∧ Framed s o t [] 601024 7293034
def lw_Z (below : List Frame) (a : Array Value) (s : State) : State → Prop := fun t => ∃ o, t.status = .running ∧ Ended t below o ∧ lw_Q a s o t
/-- the law's own end, with 1 on the stack, nothing written that was there before, its room as the claim has it -/
theorem lw_ret {p : Program} {l : Launch} {e : Env} {s : State} {m : MethodId} {below : List Frame} {meth : Method} {c : Code} {b : Nat} (hx : p.tables.exec = Jvm.exec) (hb : c.code = code) (hr : meth.sig.returnType = ret) (hlocks : meth.locks = false) {pc : Nat} {H : Heap} {ls : Array Slot} (hdg : decode code pc = .ok (.ireturn, 1)) : W p l e room_1 s m #[Value.ref b] below meth c H [] 601024 7293034 (lw_Z below #[Value.ref b] s) (F0 m pc ls [.int 1]) := by
  intro T hT X
  obtain ⟨fs, hret, hrun, hended, hW, hframe⟩ := X.leave (v := some (.int 1)) (hlocks := hlocks) (fun h => by rw [hr] at h; cases h)
  have hmeth' : T.vm.method? m = some meth := X.method'
  refine ⟨T.setFrames fs, ?_, .returned (some (.int 1)), hrun, hended, rfl, ⟨_, rfl⟩, hW, hframe⟩
  jvm_step X.here [X.here.top, hx, hb, hdg, hmeth', hr, ret, narrow_b1]
  (try refine ⟨rfl, ?_⟩); (try refine ⟨rfl, ?_⟩)
  first | (intro acts; rw [hret _ acts rfl rfl rfl]) | rw [hret _ _ rfl rfl rfl]
  exact Steps.refl _
/-- what holds at the law's entry: the machine, the code, the tables' words (any of lw_tbl by 'hts w (by decide +kernel)'), the script of L ints xs at the cell b, what the Statement gives of the start (any of its parts by flat_of_before) -/
def lw_At (p : Program) (s : State) (m : MethodId) (meth : Method) (c : Code) (b L : Nat) (xs : Nat → Int32) : Prop :=
  p.tables.exec = Jvm.exec ∧ c.code = code ∧ meth.sig.returnType = ret ∧ c.maxLocals = 9 ∧ s.vm.findClass R_law = some m.cls ∧ (∀ w ∈ lw_tbl, w.before #[Value.ref b] s = true) ∧ va_X b L xs s s.heap ∧ b < s.heap.size ∧ meth.locks = false ∧ (Jvm.Cond.and given_1 narrow_1).before #[Value.ref b] s = true
/-- a class of arrays of numbers -/
theorem arr_prim {s : State} {args : Array Value} {ty : FieldType} (h : (Cond.arrayClass ty).before args s = true) (hp : ∀ cA : ClassId, s.vm.findClass ("[" ++ ty.toString) = some cA → va_RA s cA ty) : ∃ cA : ClassId, ArrOfT s cA ty ∧ va_RA s cA ty := by
  obtain ⟨c, k, comp, h1, h2, h3⟩ := Cond.arrayClass_spec h
  exact ⟨c, fun n z => ⟨fun q e => (by cases e), k, h2, comp, h3⟩, hp c h1⟩
theorem arr_obj {s : State} {args : Array Value} {C : String} (h : (Cond.arrayOver (.object C)).before args s = true) : ∃ cA : ClassId, ArrOfT s cA (.object C) ∧ va_RA s cA (.object C) := by
  obtain ⟨comp, c, k, h1, h2, h3, h4, h5⟩ := Cond.arrayOver_spec h
  exact ⟨c, fun n z => ⟨fun q e => (by cases e), k, h3, comp, h4⟩, k, comp, h3, h4, h1, h5⟩
theorem kn_cls {s : State} {args : Array Value} (hts : ∀ w ∈ zT, w.before args s = true) : ∀ k : Nat, ∃ x : ClassId × (Nat → Nat), ∀ q : vw_C, zcl[k]? = some q → u_Kn s q.1 q.2.1 q.2.2 x.1 x.2 := by
  intro k
  match k with
  | 0 =>
    obtain ⟨c, f, h⟩ := u_known (C := R_Ke) (T := F_Ke) (N := 9) (n := 9) hts i_Ke (hts _ zi_Ke.1)
    exact ⟨(c, f), fun q hq => by cases hq; exact h⟩
  | 1 =>
    obtain ⟨c, f, h⟩ := u_known (C := R_Jo) (T := F_Jo) (N := 5) (n := 5) hts i_Jo (hts _ zi_Jo.1)
    exact ⟨(c, f), fun q hq => by cases hq; exact h⟩
  | 2 =>
    obtain ⟨c, f, h⟩ := u_known (C := R_Le) (T := F_Le) (N := 3) (n := 3) hts i_Le (hts _ zi_Le.1)
    exact ⟨(c, f), fun q hq => by cases hq; exact h⟩
  | 3 =>
    obtain ⟨c, f, h⟩ := u_known (C := R_Na) (T := F_Na) (N := 2) (n := 2) hts i_Na (hts _ zi_Na.1)
    exact ⟨(c, f), fun q hq => by cases hq; exact h⟩
  | 4 =>
    obtain ⟨c, f, h⟩ := u_known (C := R_Fr) (T := F_Fr) (N := 2) (n := 2) hts i_Fr (hts _ zi_Fr.1)
    exact ⟨(c, f), fun q hq => by cases hq; exact h⟩
  | 5 =>
    obtain ⟨c, f, h⟩ := u_known (C := R_Pr) (T := F_Pr) (N := 8) (n := 8) hts i_Pr (hts _ zi_Pr.1)
    exact ⟨(c, f), fun q hq => by cases hq; exact h⟩
  | 6 =>
    obtain ⟨c, f, h⟩ := u_known (C := R_Re) (T := F_Re) (N := 9) (n := 9) hts i_Re (hts _ zi_Re.1)
    exact ⟨(c, f), fun q hq => by cases hq; exact h⟩
  | 7 =>
    obtain ⟨c, f, h⟩ := u_known (C := R_Pl) (T := F_Pl) (N := 13) (n := 13) hts i_Pl (hts _ zi_Pl.1)
    exact ⟨(c, f), fun q hq => by cases hq; exact h⟩
  | 8 =>
    obtain ⟨c, f, h⟩ := u_known (C := R_Fo) (T := F_Fo) (N := 9) (n := 9) hts i_Fo (hts _ zi_Fo.1)
    exact ⟨(c, f), fun q hq => by cases hq; exact h⟩
  | 9 =>
    obtain ⟨c, f, h⟩ := u_known (C := R_Sp) (T := F_Sp) (N := 6) (n := 6) hts i_Sp (hts _ zi_Sp.1)
    exact ⟨(c, f), fun q hq => by cases hq; exact h⟩
  | 10 =>
    obtain ⟨c, f, h⟩ := u_known (C := R_Te) (T := F_Te) (N := 4) (n := 4) hts i_Te (hts _ zi_Te.1)
    exact ⟨(c, f), fun q hq => by cases hq; exact h⟩
  | 11 =>
    obtain ⟨c, f, h⟩ := u_known (C := R_Mo) (T := F_Mo) (N := 34) (n := 34) hts i_Mo (hts _ zi_Mo.1)
    exact ⟨(c, f), fun q hq => by cases hq; exact h⟩
  | k + 12 => exact ⟨(0, fun _ => 0), fun q hq => by simp [zcl] at hq⟩
/-- the law's own start: what is known of the state -/
theorem start_kn {s : State} {b L : Nat} {xs : Nat → Int32} (hts : ∀ w ∈ lw_tbl, w.before #[Value.ref b] s = true) (hX : va_X b L xs s s.heap) (hbl : b < s.heap.size) : ∃ g : GG, gB g = s.heap.size ∧ gb g = b ∧ gL g = L ∧ Kn g s := by
  have hz : ∀ w ∈ zT, w.before #[Value.ref b] s = true := fun w hw => hts w (zT_in hw)
  have hc := kn_cls hz
  have oF : (Cond.arrayOver (.object "SpeedKernel$Fraction")).before #[Value.ref b] s = true := hts _ (List.mem_of_getElem? (i := 168) (by decide +kernel))
  have oN : (Cond.arrayOver (.object "SpeedKernel$Natural")).before #[Value.ref b] s = true := hts _ (List.mem_of_getElem? (i := 255) (by decide +kernel))
  obtain ⟨a1, p1⟩ := arr_prim (hz _ za_int) (fun _ h => h)
  obtain ⟨a2, p2⟩ := arr_prim (hz _ za_long) (fun _ h => h)
  obtain ⟨a3, p3⟩ := arr_prim (hz _ za_boolean) (fun _ h => h)
  obtain ⟨a4, p4⟩ := arr_prim (hz _ za_char) (fun _ h => h)
  obtain ⟨a5, p5⟩ := arr_obj oN
  obtain ⟨a6, p6⟩ := arr_obj oF
  refine ⟨(s.heap.size, b, L, xs, (fun k => (Classical.choose (hc k)).1, fun k => (Classical.choose (hc k)).2), fun t => ([0, a1, a2, a3, a4, a5, a6] : List ClassId).getD t 0), rfl, rfl, rfl, ⟨fun k q hq => Classical.choose_spec (hc k) q hq, fun k q hq => ?_⟩, fun w hw => ?_, fun C hC => ?_, hX, hbl, Nat.le_refl _⟩
  · match k, hq with
    | 0, hq => cases hq; exact p1
    | 1, hq => cases hq; exact p2
    | 2, hq => cases hq; exact p3
    | 3, hq => cases hq; exact p4
    | 4, hq => cases hq; exact p5
    | 5, hq => cases hq; exact p6
    | k + 6, hq => simp [ztys] at hq
  · have ho := zNest_ok w hw
    have hh := hts w (zNest_in w hw)
    cases w <;> first | (cases ho; done) | exact va_Nw.of rfl hh
  · rcases hC with rfl | rfl
    · exact va_AO.of oN
    · exact va_AO.of oF
theorem start_ir {g : GG} {s : State} {b : Nat} (hts : ∀ w ∈ lw_tbl, w.before #[Value.ref b] s = true) (hgv : (Jvm.Cond.and given_1 narrow_1).before #[Value.ref b] s = true) (hg : gB g = s.heap.size) : IR g s := by
  have hq := flat_of_before _ hgv
  have cs : ∀ (i : Nat) (w : Cond), lw_tbl[i]? = some w → w.before #[Value.ref b] s = true := fun i w h => hts w (List.mem_of_getElem? h)
  have d1 := cs 697 (.declares ⟨"java/lang/RuntimeException", "<init>", "()V"⟩) (by decide +kernel)
  have d2 := cs 699 (.declares ⟨"java/lang/Exception", "<init>", "()V"⟩) (by decide +kernel)
  have d3 := cs 701 (.declares ⟨"java/lang/Throwable", "<init>", "()V"⟩) (by decide +kernel)
  have c1 := cs 1209 (.castable "java/lang/IllegalStateException" "java/lang/IllegalStateException") (by decide +kernel)
  have c2 := cs 696 (.castable "java/lang/IllegalArgumentException" "java/lang/IllegalArgumentException") (by decide +kernel)
  have c3 := cs 1266 (.castable "java/lang/IndexOutOfBoundsException" "java/lang/IndexOutOfBoundsException") (by decide +kernel)
  have l1 := cs 721 (.laysStatic "java/lang/Throwable" "UNASSIGNED_STACK" "[Ljava/lang/StackTraceElement;") (by decide +kernel)
  have l2 := cs 723 (.laysStatic "java/lang/Throwable" "SUPPRESSED_SENTINEL" "Ljava/util/List;") (by decide +kernel)
  have r1 : (Cond.isRef (.static "java/lang/Throwable" "UNASSIGNED_STACK" "[Ljava/lang/StackTraceElement;")).before #[Value.ref b] s = true := hq _ (by decide +kernel)
  have r2 : (Cond.isRef (.static "java/lang/Throwable" "SUPPRESSED_SENTINEL" "Ljava/util/List;")).before #[Value.ref b] s = true := hq _ (by decide +kernel)
  have nc : (Cond.not (.castable "java/lang/IllegalArgumentException" "java/lang/IndexOutOfBoundsException")).before #[Value.ref b] s = true := hq _ (by decide +kernel)
  obtain ⟨x1, x2, e1, e2, _⟩ := Cond.castable_spec c2
  obtain ⟨y1, y2, f1, f2, _⟩ := Cond.castable_spec c3
  refine ⟨IRs.of l1 r1 (Nat.le_of_eq hg.symm), IRs.of l2 r2 (Nat.le_of_eq hg.symm), fun w hw => dc_move (args := #[Value.ref b]) (State.WarmedH.refl s) w hw ?_, NC.of nc e1 f1⟩
  simp only [zDc, List.mem_cons, List.not_mem_nil, or_false] at hw
  rcases hw with rfl | rfl | rfl | rfl | rfl | rfl
  · exact d1
  · exact d2
  · exact d3
  · exact c1
  · exact c2
  · exact c3
/-- from the entry, for every script of at most 2560 ints, the law comes to its end with true -/
theorem whole_start {p : Program} {e : Env} {s : State} {m : MethodId} {below : List Frame} {meth : Method} {c : Code} (l : Launch) (hfl : l.flags = flags0) {b L : Nat} {xs : Nat → Int32} (hL : L ≤ 2560) (C0 : lw_At p s m meth c b L xs) : W p l e room_1 s m #[Value.ref b] below meth c s.heap [] 0 0 (lw_Z below #[Value.ref b] s) (entryFrame m ([Value.ref b] : List Value).toArray 9) := by
  obtain ⟨hx, hb, hr, hml, hown, hts, hX, hbl, hlocks, hgv⟩ := C0
  obtain ⟨g, g1, g2, g3, hKn⟩ := start_kn hts hX hbl
  have hir := start_ir hts hgv g1
  have hz : ∀ w ∈ zT, w.before #[Value.ref b] s = true := fun w hw => hts w (zT_in hw)
  have h0 : Hp g E0 D0 s.heap := ⟨fun j q hj => by simp [wld, E0] at hj, Nat.le_of_eq g1, fun _ => g1.symm, fun a ha => absurd ha (Nat.not_lt_zero a)⟩
  have e0 : ([vS] : List VV).map (val g) = [Value.ref b] := by rw [List.map_cons, val_S, g2]; rfl
  have hrel := ent_rel (g := g) (as := [vS]) (n := 9) (by decide)
  rw [e0] at hrel
  have Kw := law_start (g := g) (by omega) p l e room_1 s m #[Value.ref b] below meth c ⟨hx, hb, hml, hr, hown, hz, hlocks, fun q => absurd q (by decide), hKn⟩ ⟨⟨by decide, by decide, Nat.le_refl _, Nat.le_refl _⟩, hfl, hir⟩ s.heap [] _ h0 va_S.rf hrel (fun v hv => ?_) (fun v h => by cases h)
  · rw [lg_entry_eq]
    intro T hT X
    obtain ⟨t, a1, o, b1, b2, ⟨⟨r, E', D', q1, q2, q3, q4⟩, q5⟩, L1, ⟨w1, w2, w3⟩, hL1⟩ := Kw T hT X
    refine ⟨t, a1, o, b1, b2, ?_, w1, w2, w3.weaken (fun y hy hlt => ?_) (Nat.le_refl _) (Nat.le_refl _)⟩
    · rw [q1, show r = some (vI 1) from q4]; rfl
    · exact absurd hlt (Nat.not_lt.mpr (by rw [← g1]; exact hL1 y hy))
  · have hv' : v ∈ [vS, vU, vU, vU, vU, vU, vU, vU, vU] := hv
    simp only [List.mem_cons, List.not_mem_nil, or_false] at hv'
    rcases hv' with rfl | rfl | rfl | rfl | rfl | rfl | rfl | rfl | rfl <;> trivial
