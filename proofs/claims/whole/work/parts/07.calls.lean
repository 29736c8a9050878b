/-! rules: returns, calls; from a walk to a contract -/
def zE : EE := (fun _ _ => true, zN, False)
section RC
variable {g : GG} {M M' : MI} {mc ms mc' ms' : Nat} {Q Q' : Option VV → EE → DD → Prop} {pc : Nat} {L st : List VV} {E : EE} {D : DD} {ca sa : Nat}
theorem qp_ret {s t : State} {H : Heap} {locs : List Loc} {args : Array Value} {v : VV} (hH : Hp g E D H) (hS : va_S (zfr g) s.heap H locs) (hv : okv v) (hq : Q (some v) E D) (ht : t.heap = H) : Qp g Q args s (.returned (some (val g v))) t :=
  ⟨⟨some v, E, D, rfl, fun w hw => by cases hw; exact hv, by rw [ht]; exact hH, hq⟩, hS.F ht⟩
theorem qp_retv {s t : State} {H : Heap} {locs : List Loc} {args : Array Value} (hH : Hp g E D H) (hS : va_S (zfr g) s.heap H locs) (hq : Q none E D) (ht : t.heap = H) : Qp g Q args s (.returned none) t :=
  ⟨⟨none, E, D, rfl, fun w hw => (by cases hw), by rw [ht]; exact hH, hq⟩, hS.F ht⟩
theorem q_iret {x : Int} (d : decode (mC M) pc = .ok (.ireturn, 1)) (hr : mR M = some .int ∨ (mR M = some .boolean ∧ 0 ≤ x ∧ x ≤ 1)) (hc : ca ≤ mc ∧ sa ≤ ms) (hq : Q (some (vI x)) E D) : Zg g M mc ms Q pc L [vI x] E D ca sa := by
  intro p l e R s m args below meth c X hR H locs ls hH hS hl hL hs
  refine W.widen hc.1 hc.2 ?_
  have hlocks := X.2.2.2.2.2.2.1
  rcases hr with hr | ⟨hr, hx⟩
  · exact W.iret (v := Int32.ofInt x) X.1 X.2.1 (X.2.2.2.1.trans hr) (fun t ht _ => qp_ret (v := vI x) hH hS (ok1 hs).1 hq ht) hS.2.2 d
  · exact W.zret (v := Int32.ofInt x) (ty := .boolean) X.1 X.2.1 (X.2.2.2.1.trans hr) (z_nar_b hx) (fun t ht _ => qp_ret (v := vI x) hH hS (ok1 hs).1 hq ht) hS.2.2 d
theorem q_lret {x : Int} (d : decode (mC M) pc = .ok (.lreturn, 1)) (hr : mR M = some .long) (hc : ca ≤ mc ∧ sa ≤ ms) (hq : Q (some (vL x)) E D) : Zg g M mc ms Q pc L [vL x] E D ca sa := by
  intro p l e R s m args below meth c X hR H locs ls hH hS hl hL hs
  refine W.widen hc.1 hc.2 ?_
  have hlocks := X.2.2.2.2.2.2.1
  exact W.lret (v := Int64.ofInt x) X.1 X.2.1 (X.2.2.2.1.trans hr) (fun t ht _ => qp_ret (v := vL x) hH hS (ok1 hs).1 hq ht) hS.2.2 d
theorem q_dret {x : Int} (d : decode (mC M) pc = .ok (.dreturn, 1)) (hr : mR M = some .double) (hc : ca ≤ mc ∧ sa ≤ ms) (hq : Q (some (vD x)) E D) : Zg g M mc ms Q pc L [vD x] E D ca sa := by
  intro p l e R s m args below meth c X hR H locs ls hH hS hl hL hs
  refine W.widen hc.1 hc.2 ?_
  have hlocks := X.2.2.2.2.2.2.1
  exact W.dret (v := zdu x) X.1 X.2.1 (X.2.2.2.1.trans hr) (fun t ht _ => qp_ret (v := vD x) hH hS (ok1 hs).1 hq ht) hS.2.2 d
theorem q_vret (d : decode (mC M) pc = .ok (.return_, 1)) (hr : mR M = none) (hc : ca ≤ mc ∧ sa ≤ ms) (hq : Q none E D) : Zg g M mc ms Q pc L [] E D ca sa := by
  intro p l e R s m args below meth c X hR H locs ls hH hS hl hL hs
  refine W.widen hc.1 hc.2 ?_
  have hlocks := X.2.2.2.2.2.2.1
  exact W.vret X.1 X.2.1 (X.2.2.2.1.trans hr) (fun t ht _ => qp_retv hH hS hq ht) hS.2.2 d
theorem q_aret {a : Nat} {C : String} (d : decode (mC M) pc = .ok (.areturn, 1)) (hr : mR M = some (.object C)) (hc : ca ≤ mc ∧ sa ≤ ms) (hq : Q (some (vR a)) E D) : Zg g M mc ms Q pc L [vR a] E D ca sa := by
  intro p l e R s m args below meth c X hR H locs ls hH hS hl hL hs
  refine W.widen hc.1 hc.2 ?_
  have hlocks := X.2.2.2.2.2.2.1
  exact W.aret (v := .ref (gB g + a)) X.1 X.2.1 (X.2.2.2.1.trans hr) (Or.inl ⟨_, rfl⟩) (Or.inr ⟨_, rfl⟩) (fun t ht _ => qp_ret (v := vR a) hH hS trivial hq ht) hS.2.2 d
theorem q_aretN {C : String} (d : decode (mC M) pc = .ok (.areturn, 1)) (hr : mR M = some (.object C)) (hc : ca ≤ mc ∧ sa ≤ ms) (hq : Q (some vN) E D) : Zg g M mc ms Q pc L [vN] E D ca sa := by
  intro p l e R s m args below meth c X hR H locs ls hH hS hl hL hs
  refine W.widen hc.1 hc.2 ?_
  have hlocks := X.2.2.2.2.2.2.1
  exact W.aret (v := .null) X.1 X.2.1 (X.2.2.2.1.trans hr) (Or.inl ⟨_, rfl⟩) (Or.inl rfl) (fun t ht _ => qp_ret (v := vN) hH hS trivial hq ht) hS.2.2 d
theorem zT_good : ∀ w ∈ zT, goodWord w = true := fun _ h => (List.mem_filter.mp h).2
theorem Kn.moved {s U : State} (hW : s.WarmedH U.vm) (hh : gB g ≤ U.heap.size) (hb : ∀ q, q < gB g → U.heap[q]? = s.heap[q]?) (h : Kn g s) : Kn g U := by
  obtain ⟨h1, h2, h3, h4, h5, h6⟩ := h
  refine ⟨va_K.moved hW.alike h1, fun w hw => ?_, fun C hC => (h3 C hC).moved hW.alike, (h4.kept (hb _ h5)).moved hW.alike, h5, hh⟩
  have hz := h2 w hw
  have ho := zNest_ok w hw
  cases w <;> first | (cases ho; done) | exact hz.warmF hW | exact hz.warmM hW
theorem Kn.calling {U : State} {f : JFrame} {mk : MethodId} {a : Array Value} (h : Kn g U) : Kn g (U.calling f mk a) := by
  obtain ⟨h1, h2, h3, h4, h5, h6⟩ := h
  refine ⟨va_K.moved (u := U) (U := U.calling f mk a) (Vm.Alike.refl U.vm) h1, fun w hw => ?_, fun C hC => va_AO.moved (u := U) (U := U.calling f mk a) (Vm.Alike.refl U.vm) (h3 C hC), va_X.moved (u := U) (U := U.calling f mk a) (Vm.Alike.refl U.vm) h4, h5, h6⟩
  have hz := h2 w hw
  have ho := zNest_ok w hw
  cases w <;> first | (cases ho; done) | exact va_Nw.same rfl rfl hz
theorem blind_Pc {as : List VV} : FrameBlind (zPc g as E D) := fun a U f mk h => ⟨h.1, h.2.1, h.2.2.1, h.2.2.2.calling⟩
theorem goodIn_ws (hM : Cond.code (mY M') (mC M') (mL M') (mR M') ∈ zT) : GoodIn zT (zws M') := by
  intro w hw
  have hw' : w ∈ zT := by
    rcases List.mem_cons.mp hw with h | h
    · rw [h]; exact hM
    · exact h
  exact ⟨hw', good_of_word (zT_good w hw')⟩
/-- a walk from a method's entry gives its contract -/
def entL : List VV → List VV
  | [] => []
  | v :: l => if zcat v = 2 then v :: vU :: entL l else v :: entL l
def ent (as : List VV) (n : Nat) : List VV := entL as ++ List.replicate (n - (entL as).length) vU
theorem entL_sl (as : List VV) : (lg_sl (as.map (val g))).length = (entL as).length ∧ ∀ (i : Nat) (v : VV), (entL as)[i]? = some v → v.1 ≠ 5 → (lg_sl (as.map (val g)))[i]? = some (.val (val g v)) := by
  induction as with
  | nil => exact ⟨rfl, fun i v h => by simp [entL] at h⟩
  | cons a as ih =>
    unfold lg_sl at ih ⊢
    rw [List.map_cons, List.flatMap_cons, zcat_val]
    unfold entL
    by_cases hc : zcat a = 2
    · rw [if_pos hc, if_pos hc]
      refine ⟨by simp [ih.1], fun i v h hv => ?_⟩
      match i, h with
      | 0, h => simp at h; subst h; rfl
      | 1, h => simp at h; subst h; exact absurd rfl hv
      | i + 2, h => simp at h; simpa using ih.2 i v h hv
    · rw [if_neg hc, if_neg hc]
      refine ⟨by simp [ih.1], fun i v h hv => ?_⟩
      match i, h with
      | 0, h => simp at h; subst h; rfl
      | i + 1, h => simp at h; simpa using ih.2 i v h hv
theorem ent_rel {as : List VV} {n : Nat} (h : (entL as).length ≤ n) : lrel g n (ent as n) ((lg_sl (as.map (val g)) ++ List.replicate (n - (lg_sl (as.map (val g))).length) Slot.unset).toArray) := by
  obtain ⟨e1, e2⟩ := entL_sl (g := g) as
  have h0 := lv_entry (as.map (val g)) (n := n) (by rw [e1]; exact h)
  refine ⟨h0.1, h0.2.1, fun i v hi hv => ?_⟩
  unfold ent at hi
  by_cases hl : i < (entL as).length
  · rw [List.getElem?_append_left hl] at hi
    have := e2 i v hi hv
    rw [List.getElem?_toArray, List.getElem?_append_left (by rw [e1]; exact hl)]
    exact this
  · rw [List.getElem?_append_right (by omega), List.getElem?_replicate] at hi
    split at hi
    · cases hi; exact absurd rfl hv
    · cases hi
theorem ok_entL {as : List VV} (h : ∀ v ∈ as, okv v) : ∀ v ∈ entL as, okv v := by
  induction as with
  | nil => exact fun v h => by cases h
  | cons a as ih =>
    unfold entL
    split
    · exact okc (ok1 h).1 (okc ok_vU (ih (ok1 h).2))
    · exact okc (ok1 h).1 (ih (ok1 h).2)
theorem at_intro {as L0 : List VV} {n : Nat} (hM : MOK M n) (hL : (entL as).length ≤ mL M) (h0 : ent as (mL M) = L0) (h : Zg g M mc ms Q 0 L0 [] E D 0 0) : AT g M mc ms as E D Q := by
  subst h0
  intro l
  refine Met.ofW (cc := mC M) (maxL := mL M) (ret := mR M) hM.2.2.1 rfl ?_
  intro p e s m args below meth c s₁ B hml hv
  obtain ⟨rfl, hok, hH, hK⟩ := hv
  have hts0 := atoms_spec (ws := zws M) B.pre
  have hts : ∀ w ∈ zT, w.before (as.map (val g)).toArray s = true := fun w hw => hts0 w (List.mem_cons_of_mem _ hw)
  rw [lg_entry_eq]
  exact h p l e (headSpec (zws M) (zrm M mc ms)).room s m _ below meth c ⟨B.exec, B.bytes, hml, B.returns, findClass_of_methodNamed B.named, hts, B.notSynchronized, fun hn => ((name_of_methodNamed B.named B.method).1).trans hn, hK⟩
    ⟨Nat.le_refl _, Nat.le_refl _, Nat.le_refl _, Nat.le_refl _⟩ s.heap [] _ hH va_S.rf (ent_rel hL) (fun v hv => by
      rcases List.mem_append.mp hv with h | h
      · exact ok_entL hok v h
      · rw [(List.mem_replicate.mp h).2]; exact ok_vU) (fun v h => by cases h)
theorem AT.mono {as : List VV} (h : AT g M mc ms as E D Q) (hq : ∀ r E' D', Q r E' D' → Q' r E' D') : AT g M mc ms as E D Q' := by
  intro l p e ha hc hk s m args below hf happ hP hT
  obtain ⟨t, o, h1, h2, h3, ⟨⟨⟨r, E', D', a1, a2, a3, a4⟩, a5⟩, hL⟩⟩ := h l p e ha hc hk s m args below hf happ hP hT
  exact ⟨t, o, h1, h2, h3, ⟨⟨⟨r, E', D', a1, a2, a3, hq r E' D' a4⟩, a5⟩, hL⟩⟩
/-- behind a call -/
theorem call_core {p : Program} {l : Launch} {e : Env} {R : Room} {s : State} {m : MethodId} {args : Array Value} {below : List Frame} {meth : Method} {c : Code} (X : Cx g M p s m args meth c) (hR : mdp M ≤ R.frames ∧ 48 * mdp M ≤ R.locals ∧ mc ≤ R.cells ∧ ms ≤ R.slots)
    {H : Heap} {locs : List Loc} {ls : Array Slot} {a : Array Value} {st0 : List Value} (hr : va_Run p l e R s m args below meth c H locs ca sa mc' ms' (F0 m pc ls st0) (st.map (val g)) (Qp g Q' a) (zfr g))
    (hS : va_S (zfr g) s.heap H locs) (hl : lrel g (mL M) L ls) (hL : ∀ v ∈ L, okv v) (hs : ∀ v ∈ st, okv v)
    (kk : ∀ r E' D', Q' r E' D' → Zg g M mc ms Q (pc + 3) L (r.toList ++ st) E' D' (ca + mc') (sa + ms')) : W p l e R s m args below meth c H locs ca sa (MQ below (Qp g Q) args s mc ms (zfr g)) (F0 m pc ls st0) := by
  intro T hT X0
  obtain ⟨v, st₀, t, T', L1, h0, X', hL1, e1, e2, ⟨⟨r, E', D', a1, a2, a3, a4⟩, a5, a6⟩, hst⟩ := hr T hT X0
  have hv : v = r.map (val g) := Outcome.returned.inj a1
  subst hv
  rw [h0] at a5 a6
  have hS' : va_S (zfr g) s.heap T'.heap (locs ++ L1) := ⟨Nat.le_trans hS.1 (by rw [e1]; exact a5), fun q h1 h2 => by rw [e1, a6 q (Nat.lt_of_lt_of_le h1 hS.1) h2]; exact hS.2.1 q h1 h2, fun q hq => by
    rcases List.mem_append.mp hq with h | h
    · exact hS.2.2 q h
    · exact hL1 q h⟩
  obtain ⟨t2, b1, b2⟩ := kk r E' D' a4 p l e R s m args below meth c X hR T'.heap (locs ++ L1) ls (by rw [e1]; exact a3) hS' hl hL (fun w hw => by
    rcases List.mem_append.mp hw with h | h
    · cases r with
      | none => cases h
      | some z => rw [Option.toList_some, List.mem_singleton] at h; rw [h]; exact a2 z rfl
    · exact hs w h) T' rfl X'
  refine ⟨t2, hst t2 ?_, b2⟩
  have e3 : (r.map (val g)).toList ++ st.map (val g) = (r.toList ++ st).map (val g) := by cases r <;> simp
  rw [e3]
  exact b1
theorem pre_call {p : Program} {s : State} {m : MethodId} {args : Array Value} {meth : Method} {c : Code} (X : Cx g M p s m args meth c) {H : Heap} {locs : List Loc} (hH : Hp g E D H) (hS : va_S (zfr g) s.heap H locs) {as : List VV} (hok : ∀ v ∈ as, okv v) : ∀ U : State, U.heap = H → s.WarmedH U.vm → zPc g as E D (as.map (val g)).toArray U := by
  intro U hU hW
  have h0 := X.2.2.2.2.2.2.2.2.2.2.2.2.2
  refine ⟨rfl, hok, by rw [hU]; exact hH, X.2.2.2.2.2.2.2.2.moved hW (by rw [hU]; exact Nat.le_trans h0 hS.1) (fun q hq => ?_)⟩
  rw [hU]
  exact hS.2.1 q (Nat.lt_of_lt_of_le hq h0) (by show ¬ gB g ≤ q; omega)
theorem ok_split {as : List VV} {v : VV} (h : ∀ w ∈ as.reverse ++ v :: st, okv w) : (∀ w ∈ v :: as, okv w) ∧ ∀ w ∈ st, okv w := by
  refine ⟨fun w hw => ?_, fun w hw => h w (List.mem_append_right _ (List.mem_cons_of_mem _ hw))⟩
  rcases List.mem_cons.mp hw with q | q
  · exact h w (List.mem_append_right _ (by rw [q]; exact List.mem_cons_self))
  · exact h w (List.mem_append_left _ (List.mem_reverse.mpr q))
theorem ok_splitS {as : List VV} (h : ∀ w ∈ as.reverse ++ st, okv w) : (∀ w ∈ as, okv w) ∧ ∀ w ∈ st, okv w :=
  ⟨fun w hw => h w (List.mem_append_left _ (List.mem_reverse.mpr hw)), fun w hw => h w (List.mem_append_right _ hw)⟩
theorem map_rev {as : List VV} {v : VV} : (as.reverse ++ v :: st).map (val g) = (as.map (val g)).reverse ++ val g v :: st.map (val g) := by rw [List.map_append, List.map_reverse, List.map_cons]
theorem map_revS {as : List VV} : (as.reverse ++ st).map (val g) = (as.map (val g)).reverse ++ st.map (val g) := by rw [List.map_append, List.map_reverse]
theorem zrecv_of {s : State} {ci N : Nat} {C : String} {T : u_T} {a : Nat} {H : Heap} (hc : ZC ci C T N) (hK : va_K (gD g) zcl (ztys g) s) (hH : Hp g E D H) (ha : zk a = (0, ci, 0)) (hn : a < E.2.1) : ∃ cell : Cell, H[gB g + a]? = some cell ∧ cell.vm.isStatics = false ∧ s.vm.findClass C = some cell.cls := by
  have h := va_recv (a := gB g + a) hK hH.1 (ci := ci) (q0 := a) (fs := (List.range (znf ci)).map (fun k => fval g E ci a (D a) k)) hc.1 (by rw [wld_get hn, cell_O ha])
  exact h
/-- side numbers of a call: the callee is less deep; its locals are few; what stays on the stack -/
def callok (M M' : MI) (st : List VV) : Bool := decide (mdp M' + 1 ≤ mdp M) && decide (mL M' ≤ 29) && decide (zcats st ≤ 8)
theorem callok_R {R : Room} (h : callok M M' st = true) (hR : mdp M ≤ R.frames ∧ 48 * mdp M ≤ R.locals ∧ mc ≤ R.cells ∧ ms ≤ R.slots) : (zrm M' mc' ms').frames + 1 ≤ R.frames ∧ 8 + (mL M' + 11) + (zrm M' mc' ms').locals ≤ R.locals := by
  unfold callok at h
  simp only [Bool.and_eq_true, decide_eq_true_eq] at h
  obtain ⟨⟨h1, h2⟩, h3⟩ := h
  show mdp M' + 1 ≤ R.frames ∧ 8 + (mL M' + 11) + 48 * mdp M' ≤ R.locals
  omega
theorem callok_W {m : MethodId} {ls : Array Slot} {st0 : List Value} (h : callok M M' st = true) : 2 * (F0 m pc ls st0).monitorRoom + ((st.map (val g)).map fun v => v.category).sum ≤ 8 := by
  unfold callok at h
  simp only [Bool.and_eq_true, decide_eq_true_eq] at h
  rw [zcats_sum]
  show 2 * 0 + _ ≤ 8
  omega
theorem q_callV {n index ci N : Nat} {C : String} {T : u_T} {a : Nat} {as stk : List VV} (hM : MOK M' n) (hV : MVV M') (hl : Cond.methodLink (mY M).cls index (mY M') ∈ zT) (hc : ZC ci C T N) (hC : (mY M').cls = C) (d : decode (mC M) pc = .ok (.invokevirtual index, 3)) (hk : callok M M' st = true) (hn : as.length = n) (hstk : stk = as.reverse ++ vR a :: st)
    (ha : zk a = (0, ci, 0)) (hna : a < E.2.1) (hcs : ca + mc' ≤ mc ∧ sa + ms' ≤ ms) (hA : AT g M' mc' ms' (vR a :: as) E D Q') (kk : ∀ r E' D', Q' r E' D' → Zg g M mc ms Q (pc + 3) L (r.toList ++ st) E' D' (ca + mc') (sa + ms')) : Zg g M mc ms Q pc L stk E D ca sa := by
  subst hstk
  intro p l e R s m args below meth c X hR H locs ls hH hS hl' hL hs
  have hts := X.2.2.2.2.2.1
  obtain ⟨hsa, hss⟩ := ok_split hs
  rw [map_rev]
  subst hC
  have hr := va_runV (p := p) (l := l) (e := e) (R := R) (s := s) (m := m) (args := args) (below := below) (meth := meth) (c := c) (H := H) (locs := locs) (cells := ca) (slots := sa) (C := (mY M').cls) (b := gB g + a) (As := as.map (val g)) (rest := st.map (val g)) (g := F0 m pc ls ((as.map (val g)).reverse ++ val g (vR a) :: st.map (val g))) (nL := mL M) ⟨X.1, X.2.1, X.2.2.1, X.2.2.2.2.1, hts⟩ (hA l)
    (⟨callB_of n hts (goodIn_ws hM.1) rfl rfl rfl (hts _ hM.2.1) (hts _ hl) ⟨hM.2.2.2.1, hM.2.2.2.2.1, hM.2.2.2.2.2⟩ (callok_R hk hR), hts _ hV.1, hts _ hV.2⟩)
    ⟨blind_Pc, zrecv_of hc X.2.2.2.2.2.2.2.2.1 hH ha hna, fun U hU hW => pre_call X hH hS hsa U hU hW⟩ rfl (by rw [List.length_map]; exact hn) hl'.1 rfl (callok_W hk) d ⟨Nat.le_trans hcs.1 hR.2.2.1, Nat.le_trans hcs.2 hR.2.2.2⟩
  exact call_core X hR hr hS hl' hL hss kk
theorem q_callVN {n index ci N : Nat} {C h0 : String} {T : u_T} {a : Nat} {as stk : List VV} (hM : MOK M' n) (hV : MVV M') (hl : Cond.methodLinkNest (mY M).cls index (mY M') h0 ∈ zNest) (hc : ZC ci C T N) (hC : (mY M').cls = C) (d : decode (mC M) pc = .ok (.invokevirtual index, 3)) (hk : callok M M' st = true) (hn : as.length = n) (hstk : stk = as.reverse ++ vR a :: st)
    (ha : zk a = (0, ci, 0)) (hna : a < E.2.1) (hcs : ca + mc' ≤ mc ∧ sa + ms' ≤ ms) (hA : AT g M' mc' ms' (vR a :: as) E D Q') (kk : ∀ r E' D', Q' r E' D' → Zg g M mc ms Q (pc + 3) L (r.toList ++ st) E' D' (ca + mc') (sa + ms')) : Zg g M mc ms Q pc L stk E D ca sa := by
  subst hstk
  intro p l e R s m args below meth c X hR H locs ls hH hS hl' hL hs
  have hts := X.2.2.2.2.2.1
  obtain ⟨hsa, hss⟩ := ok_split hs
  rw [map_rev]
  subst hC
  have hr := va_runVN (p := p) (l := l) (e := e) (R := R) (s := s) (m := m) (args := args) (below := below) (meth := meth) (c := c) (H := H) (locs := locs) (cells := ca) (slots := sa) (C := (mY M').cls) (b := gB g + a) (As := as.map (val g)) (rest := st.map (val g)) (g := F0 m pc ls ((as.map (val g)).reverse ++ val g (vR a) :: st.map (val g))) (nL := mL M) (Ts := zT) ⟨X.1, X.2.1, X.2.2.1, X.2.2.2.2.1, hts⟩ (hA l)
    (⟨va_cnB n hts (goodIn_ws hM.1) rfl rfl rfl (X.2.2.2.2.2.2.2.2.2.1 _ hl) (hts _ hM.2.1) ⟨hM.2.2.2.1, hM.2.2.2.2.1, hM.2.2.2.2.2⟩ (callok_R hk hR), hts _ hV.1, hts _ hV.2⟩)
    ⟨blind_Pc, zrecv_of hc X.2.2.2.2.2.2.2.2.1 hH ha hna, fun U hU hW => pre_call X hH hS hsa U hU hW⟩ rfl (by rw [List.length_map]; exact hn) hl'.1 rfl (callok_W hk) d ⟨Nat.le_trans hcs.1 hR.2.2.1, Nat.le_trans hcs.2 hR.2.2.2⟩
  exact call_core X hR hr hS hl' hL hss kk
theorem q_callS {n index : Nat} {as stk : List VV} (hM : MOK M' n) (hV : MSS M') (hl : Cond.methodLink (mY M).cls index (mY M') ∈ zT) (d : decode (mC M) pc = .ok (.invokestatic index, 3)) (hk : callok M M' st = true) (hn : as.length = n) (hstk : stk = as.reverse ++ st)
    (hcs : ca + mc' ≤ mc ∧ sa + ms' ≤ ms) (hA : AT g M' mc' ms' as E D Q') (kk : ∀ r E' D', Q' r E' D' → Zg g M mc ms Q (pc + 3) L (r.toList ++ st) E' D' (ca + mc') (sa + ms')) : Zg g M mc ms Q pc L stk E D ca sa := by
  subst hstk
  intro p l e R s m args below meth c X hR H locs ls hH hS hl' hL hs
  have hts := X.2.2.2.2.2.1
  obtain ⟨hsa, hss⟩ := ok_splitS hs
  rw [map_revS]
  have hr := va_runS (p := p) (l := l) (e := e) (R := R) (s := s) (m := m) (args := args) (below := below) (meth := meth) (c := c) (H := H) (locs := locs) (cells := ca) (slots := sa) (As := as.map (val g)) (rest := st.map (val g)) (g := F0 m pc ls ((as.map (val g)).reverse ++ st.map (val g))) (nL := mL M) ⟨X.1, X.2.1, X.2.2.1, X.2.2.2.2.1, hts⟩ (hA l)
    (⟨callB_of n hts (goodIn_ws hM.1) rfl rfl rfl (hts _ hM.2.1) (hts _ hl) ⟨hM.2.2.2.1, hM.2.2.2.2.1, hM.2.2.2.2.2⟩ (callok_R hk hR), hts _ hV⟩)
    ⟨blind_Pc, fun U hU hW => pre_call X hH hS hsa U hU hW⟩ rfl (by rw [List.length_map]; exact hn) hl'.1 rfl (callok_W hk) d ⟨Nat.le_trans hcs.1 hR.2.2.1, Nat.le_trans hcs.2 hR.2.2.2⟩
  exact call_core X hR hr hS hl' hL hss kk
theorem q_callSN {n index : Nat} {h0 : String} {as stk : List VV} (hM : MOK M' n) (hV : MSS M') (hl : Cond.methodLinkNest (mY M).cls index (mY M') h0 ∈ zNest) (d : decode (mC M) pc = .ok (.invokestatic index, 3)) (hk : callok M M' st = true) (hn : as.length = n) (hstk : stk = as.reverse ++ st)
    (hcs : ca + mc' ≤ mc ∧ sa + ms' ≤ ms) (hA : AT g M' mc' ms' as E D Q') (kk : ∀ r E' D', Q' r E' D' → Zg g M mc ms Q (pc + 3) L (r.toList ++ st) E' D' (ca + mc') (sa + ms')) : Zg g M mc ms Q pc L stk E D ca sa := by
  subst hstk
  intro p l e R s m args below meth c X hR H locs ls hH hS hl' hL hs
  have hts := X.2.2.2.2.2.1
  obtain ⟨hsa, hss⟩ := ok_splitS hs
  rw [map_revS]
  have hr := va_runSN (p := p) (l := l) (e := e) (R := R) (s := s) (m := m) (args := args) (below := below) (meth := meth) (c := c) (H := H) (locs := locs) (cells := ca) (slots := sa) (As := as.map (val g)) (rest := st.map (val g)) (g := F0 m pc ls ((as.map (val g)).reverse ++ st.map (val g))) (nL := mL M) (Ts := zT) ⟨X.1, X.2.1, X.2.2.1, X.2.2.2.2.1, hts⟩ (hA l)
    (⟨va_cnB n hts (goodIn_ws hM.1) rfl rfl rfl (X.2.2.2.2.2.2.2.2.2.1 _ hl) (hts _ hM.2.1) ⟨hM.2.2.2.1, hM.2.2.2.2.1, hM.2.2.2.2.2⟩ (callok_R hk hR), hts _ hV, trivial⟩)
    ⟨blind_Pc, fun U hU hW => pre_call X hH hS hsa U hU hW⟩ rfl (by rw [List.length_map]; exact hn) hl'.1 rfl (callok_W hk) d ⟨Nat.le_trans hcs.1 hR.2.2.1, Nat.le_trans hcs.2 hR.2.2.2⟩
  exact call_core X hR hr hS hl' hL hss kk
theorem q_max {x y : Int} {index : Nat} (hl : Cond.methodLink (mY M).cls index Lib.Math.max.name ∈ zT) (d : decode (mC M) pc = .ok (.invokestatic index, 3)) (hk : (decide (1 ≤ mdp M) && decide (zcats st ≤ 8)) = true) (hcs : ca ≤ mc ∧ sa ≤ ms) (kk : Zg g M mc ms Q (pc + 3) L (vI (if x < y then y else x) :: st) E D ca sa) : Zg g M mc ms Q pc L (vI y :: vI x :: st) E D ca sa := by
  simp only [Bool.and_eq_true, decide_eq_true_eq] at hk
  refine zg_ok fun _ h _ => ?_
  have hx : R32 x := (ok2 h).2.1
  have hy : R32 y := (ok2 h).1
  intro p l e R s m args below meth c X hR H locs ls hH hS hl' hL hs
  have hts := X.2.2.2.2.2.1
  refine va_mmax X.1 X.2.1 (X.2.2.1.trans hl'.1.symm) X.2.2.2.2.1 (hts _ hl) (hts _ zx_max_s) (hts _ zx_copy.2.2.2) (hts _ zx_max_c) (by omega) (by rw [zcats_sum]; omega) (by omega) (by omega) d ?_
  have e9 : (if Int32.ofInt x < Int32.ofInt y then Int32.ofInt y else Int32.ofInt x) = Int32.ofInt (if x < y then y else x) := by
    by_cases hxy : x < y
    · rw [if_pos hxy, if_pos ((i32_lt hx hy).mpr hxy)]
    · rw [if_neg hxy, if_neg (fun q => hxy ((i32_lt hx hy).mp q))]
  rw [e9]
  exact kk p l e R s m args below meth c X hR H locs ls hH hS hl' hL (okI (by split <;> omega) (ok2 hs).2.2)
theorem q_min {x y : Int} {index : Nat} (hl : Cond.methodLink (mY M).cls index Lib.Math.min.name ∈ zT) (d : decode (mC M) pc = .ok (.invokestatic index, 3)) (hk : (decide (1 ≤ mdp M) && decide (zcats st ≤ 8)) = true) (hcs : ca ≤ mc ∧ sa ≤ ms) (kk : Zg g M mc ms Q (pc + 3) L (vI (if y < x then y else x) :: st) E D ca sa) : Zg g M mc ms Q pc L (vI y :: vI x :: st) E D ca sa := by
  simp only [Bool.and_eq_true, decide_eq_true_eq] at hk
  refine zg_ok fun _ h _ => ?_
  have hx : R32 x := (ok2 h).2.1
  have hy : R32 y := (ok2 h).1
  intro p l e R s m args below meth c X hR H locs ls hH hS hl' hL hs
  have hts := X.2.2.2.2.2.1
  refine va_mmin X.1 X.2.1 (X.2.2.1.trans hl'.1.symm) X.2.2.2.2.1 (hts _ hl) (hts _ zx_min_s) (hts _ zx_copy.2.2.2) (hts _ zx_min_c) (by omega) (by rw [zcats_sum]; omega) (by omega) (by omega) d ?_
  have e9 : (if Int32.ofInt y < Int32.ofInt x then Int32.ofInt y else Int32.ofInt x) = Int32.ofInt (if y < x then y else x) := by
    by_cases hxy : y < x
    · rw [if_pos hxy, if_pos ((i32_lt hy hx).mpr hxy)]
    · rw [if_neg hxy, if_neg (fun q => hxy ((i32_lt hy hx).mp q))]
  rw [e9]
  exact kk p l e R s m args below meth c X hR H locs ls hH hS hl' hL (okI (by split <;> omega) (ok2 hs).2.2)
end RC
