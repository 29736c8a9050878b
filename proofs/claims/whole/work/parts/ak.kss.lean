/-! split and step of the class: when they return, when they throw -/
section RDO
variable {g : GG} {M M' : MI} {mc ms : Nat} {pc : Nat} {L st : List VV} {D : DD} {ca sa : Nat} {K : KZ} {F : FZ} {q : Int → Prop} {a b c : Int}
/-- a method that only reads -/
def Qri (g : GG) (q : Int → Prop) : Array Value → State → Outcome → State → Prop := fun _ st o t => (∃ x : Int, o = .returned (some (.int (Int32.ofInt x))) ∧ R32 x ∧ q x) ∧ va_F nA st t
def FR0 (g : GG) (q : Int → Prop) : FZ := fun args s below => MQ below (Qri g q) args s 0 0 nA
def ATr (g : GG) (M : MI) (as : List VV) (D : DD) (q : Int → Prop) : Prop := ∀ l, Met l (mY M) (zws M) (zrm M 0 0) (zPc g as zE D) (Qri g q) 0 0 nA
def KTT : KZ := fun _ _ _ _ _ _ _ _ _ _ => True
theorem atr_intro {as L0 : List VV} {n : Nat} (hM : MOK M n) (hL : (entL as).length ≤ mL M) (h0 : ent as (mL M) = L0) (h : Zf nA KTT (FR0 g q) g M 0 0 0 L0 [] zE D 0 0) : ATr g M as D q := by
  subst h0
  intro l
  refine Met.ofW (cc := mC M) (maxL := mL M) (ret := mR M) hM.2.2.1 rfl ?_
  intro p e s m args below meth c s₁ B hml hv
  obtain ⟨rfl, hok, hH, hK⟩ := hv
  have hts0 := atoms_spec (ws := zws M) B.pre
  have hts : ∀ w ∈ zT, w.before (as.map (val g)).toArray s = true := fun w hw => hts0 w (List.mem_cons_of_mem _ hw)
  rw [lg_entry_eq]
  exact h p l e (headSpec (zws M) (zrm M 0 0)).room s m _ below meth c ⟨B.exec, B.bytes, hml, B.returns, findClass_of_methodNamed B.named, hts, B.notSynchronized, fun hn => ((name_of_methodNamed B.named B.method).1).trans hn, hK⟩
    ⟨⟨Nat.le_refl _, Nat.le_refl _, Nat.le_refl _, Nat.le_refl _⟩, trivial⟩ s.heap [] _ hH va_S.rf (ent_rel hL) (fun v hv => by
      rcases List.mem_append.mp hv with h | h
      · exact ok_entL hok v h
      · rw [(List.mem_replicate.mp h).2]; exact ok_vU) (fun v h => by cases h)
theorem f_iretR {x : Int} (d : decode (mC M) pc = .ok (.ireturn, 1)) (hr : mR M = some .int ∨ (mR M = some .boolean ∧ 0 ≤ x ∧ x ≤ 1)) (hq : q x) : Zf nA K (FR0 g q) g M mc ms pc L [vI x] zE D 0 0 := by
  intro p l e R s m args below meth c X hR H locs ls hH hS hl hL hs
  have hlocks := X.2.2.2.2.2.2.1
  have ox : R32 x := (ok1 hs).1
  rcases hr with hr | ⟨hr, hx⟩
  · exact W.iret (v := Int32.ofInt x) X.1 X.2.1 (X.2.2.2.1.trans hr) (fun t ht _ => ⟨⟨x, rfl, ox, hq⟩, hS.F ht⟩) hS.2.2 d
  · exact W.zret (v := Int32.ofInt x) (ty := .boolean) X.1 X.2.1 (X.2.2.2.1.trans hr) (z_nar_b hx) (fun t ht _ => ⟨⟨x, rfl, ox, hq⟩, hS.F ht⟩) hS.2.2 d
theorem hasStepR {a0 : Nat} {x : Int} (k : zk a0 = (0, 5, 0)) : ATr g M_Pr_hasStep [vR a0, vI x] D (fun v => v = if D a0 0 ≠ 0 ∧ 0 ≤ x ∧ x < D a0 1 then 1 else 0) := by
  have lt := zk_lt k (by decide)
  have no : ∀ {L : List VV}, ¬ (D a0 0 ≠ 0 ∧ 0 ≤ x ∧ x < D a0 1) → Zf nA KTT (FR0 g (fun v => v = if D a0 0 ≠ 0 ∧ 0 ≤ x ∧ x < D a0 1 then 1 else 0)) g M_Pr_hasStep 0 0 23 L [] zE D 0 0 := fun h => by
    refine f_iconst d_Pr_hasStep_23 (by decide) ?_
    exact f_iretR d_Pr_hasStep_24 (Or.inr ⟨rfl, by decide⟩) (if_neg h).symm
  refine atr_intro mc_Pr_hasStep (Nat.le_of_ble_eq_true rfl) rfl ?_
  refine f_aload_n d_Pr_hasStep_0 rfl ?_
  refine f_getI (k := 0) zc_Pr l_Pr_35 fi_Pr_ready d_Pr_hasStep_1 k lt ?_
  refine f_if_eq (tgt := 23) d_Pr_hasStep_4 (by decide) (fun c1 => no fun q => q.1 c1) (fun c1 => ?_)
  refine f_iload_n d_Pr_hasStep_7 rfl ?_
  refine f_if_lt (tgt := 23) d_Pr_hasStep_8 (by decide) (fun c2 => no fun q => by omega) (fun c2 => ?_)
  refine f_iload_n d_Pr_hasStep_11 rfl ?_
  refine f_aload_n d_Pr_hasStep_12 rfl ?_
  refine f_getI (k := 1) zc_Pr l_Pr_39 fi_Pr_steps d_Pr_hasStep_13 k lt ?_
  refine f_icmp_ge (tgt := 23) d_Pr_hasStep_16 (by decide) (fun c3 => no fun q => by omega) (fun c3 => ?_)
  refine f_iconst d_Pr_hasStep_19 (by decide) ?_
  refine f_goto (tgt := 24) d_Pr_hasStep_20 (by decide) ?_
  exact f_iretR d_Pr_hasStep_24 (Or.inr ⟨rfl, by decide⟩) (if_pos ⟨c1, by omega, by omega⟩).symm
theorem f_callR {n index ci N : Nat} {C : String} {T : u_T} {a : Nat} {as stk : List VV} (hM : MOK M' n) (hV : MVV M') (hl : Cond.methodLink (mY M).cls index (mY M') ∈ zT) (hc : ZC ci C T N) (hC : (mY M').cls = C) (d : decode (mC M) pc = .ok (.invokevirtual index, 3)) (hk : callok M M' st = true) (hn : as.length = n) (hstk : stk = as.reverse ++ vR a :: st)
    (ha : zk a = (0, ci, 0)) (hna : a < zE.2.1) (hcs : ca ≤ mc ∧ sa ≤ ms) (hA : ATr g M' (vR a :: as) D q) (kk : ∀ x, q x → Zf nA K F g M mc ms (pc + 3) L (vI x :: st) zE D ca sa) : Zf nA K F g M mc ms pc L stk zE D ca sa := by
  subst hstk
  intro p l e R s m args below meth c X hR H locs ls hH hS hl' hL hs
  have hts := X.2.2.2.2.2.1
  obtain ⟨hsa, hss⟩ := ok_split hs
  rw [map_rev]
  subst hC
  have hS0 : va_S (zfr g) s.heap H locs := ⟨hS.1, fun q h1 _ => hS.2.1 q h1 (fun z => z), fun x hx => (hS.2.2 x hx).elim⟩
  have hr := va_runV (p := p) (l := l) (e := e) (R := R) (s := s) (m := m) (args := args) (below := below) (meth := meth) (c := c) (H := H) (locs := locs) (cells := ca) (slots := sa) (C := (mY M').cls) (b := gB g + a) (As := as.map (val g)) (rest := st.map (val g)) (g := F0 m pc ls ((as.map (val g)).reverse ++ val g (vR a) :: st.map (val g))) (nL := mL M) ⟨X.1, X.2.1, X.2.2.1, X.2.2.2.2.1, hts⟩ (hA l)
    (⟨callB_of n hts (goodIn_ws hM.1) rfl rfl rfl (hts _ hM.2.1) (hts _ hl) ⟨hM.2.2.2.1, hM.2.2.2.2.1, hM.2.2.2.2.2⟩ (callok_R hk hR.1), hts _ hV.1, hts _ hV.2⟩)
    ⟨blind_Pc, zrecv_of hc X.2.2.2.2.2.2.2.2.1 hH ha hna, fun U hU hW => pre_call X hH hS0 hsa U hU hW⟩ rfl (by rw [List.length_map]; exact hn) hl'.1 rfl (callok_W hk) d ⟨Nat.le_trans hcs.1 hR.1.2.2.1, Nat.le_trans hcs.2 hR.1.2.2.2⟩
  intro T hT X0
  obtain ⟨v, st₀, t, T', L1, h0, X', hL1, e1, e2, ⟨⟨x, a1, a2, a3⟩, a5, a6⟩, hst⟩ := hr T hT X0
  have hv : v = some (.int (Int32.ofInt x)) := Outcome.returned.inj a1
  subst hv
  rw [h0] at a5 a6
  have same : ∀ q, q < H.size → T'.heap[q]? = H[q]? := fun q hq => by rw [e1]; exact a6 q hq (fun z => z)
  have sz : H.size ≤ T'.heap.size := by rw [e1]; exact a5
  have hS' : va_S nA s.heap T'.heap (locs ++ L1) := ⟨Nat.le_trans hS.1 sz, fun q h1 h2 => by rw [same q (Nat.lt_of_lt_of_le h1 hS.1)]; exact hS.2.1 q h1 h2, fun q hq => by
    rcases List.mem_append.mp hq with h | h
    · exact hS.2.2 q h
    · exact hL1 q h⟩
  have hH' : Hp g zE D T'.heap := ⟨hH.1.kept fun k q hk => same _ (hH.1 k q hk).lt, Nat.le_trans hH.2.1 sz, fun q => q.elim, hH.2.2.2⟩
  obtain ⟨t2, b1, b2⟩ := kk x a3 p l e R s m args below meth c X hR T'.heap (locs ++ L1) ls hH' hS' hl' hL (okI a2 hss) T' rfl X'
  exact ⟨t2, hst t2 b1, b2⟩
theorem att_intro {as L0 : List VV} {n : Nat} {X : String} (hM : MOK M n) (hL : (entL as).length ≤ mL M) (h0 : ent as (mL M) = L0) (h : Zf nA (KT g D) (FTh g X D) g M 1 6 0 L0 [] zE D 0 0) : ATt g M X as D := by
  subst h0
  intro l hfl
  refine MetFree.of_bodyS (code := mC M) (maxLocals := mL M) (ret := mR M) hM.2.2.1 ?_ ?_
  · intro args s m h hn
    obtain ⟨meth, c, h1, h2, h3, h4, h5, h6, -, -⟩ := Cond.code_spec hn (atoms_spec (ws := zws M) h _ List.mem_cons_self)
    exact ⟨meth, c, h1, h2, h3, h4, h5, h6⟩
  · intro p e s m args below meth c s₁ B hml hP _
    obtain ⟨⟨rfl, hok, hH, hK⟩, hir⟩ := hP
    have hh0 : s₁.heap = s.heap := by rw [B.state]; rfl
    have X0 := Stand.of_body B
    have hts0 := atoms_spec (ws := zws M) B.pre
    have hts : ∀ w ∈ zT, w.before (as.map (val g)).toArray s = true := fun w hw => hts0 w (List.mem_cons_of_mem _ hw)
    have htr : e.platform.stackTraces = false := Launch.traces_off hfl X0.admits
    have hex : c.exceptionTable.toList = [] := by
      obtain ⟨meth', c', hm', hc', -, -, -, -, hempty, -⟩ := Cond.code_spec B.named (hts0 _ List.mem_cons_self)
      cases B.method.symm.trans hm'
      cases X0.code.symm.trans hc'
      have h0 : c.exceptionTable.size = 0 := by simpa [Array.isEmpty] using hempty
      exact List.eq_nil_of_length_eq_zero (by simpa using h0)
    have Kw : W p l e (headSpec (zws M) (zrm M 1 6)).room s m (as.map (val g)).toArray below meth c s.heap [] 0 0 (FTh g X D (as.map (val g)).toArray s below) (entryFrame m (as.map (val g)).toArray (mL M)) := by
      rw [lg_entry_eq]
      exact h p l e (headSpec (zws M) (zrm M 1 6)).room s m _ below meth c ⟨B.exec, B.bytes, hml, B.returns, findClass_of_methodNamed B.named, hts, B.notSynchronized, fun hn => ((name_of_methodNamed B.named B.method).1).trans hn, hK⟩
        ⟨⟨Nat.le_refl _, Nat.le_refl _, Nat.le_refl _, Nat.le_refl _⟩, htr, hex, hir, hH⟩ s.heap [] _ hH va_S.rf (ent_rel hL) (fun v hv => by
          rcases List.mem_append.mp hv with h | h
          · exact ok_entL hok v h
          · rw [(List.mem_replicate.mp h).2]; exact ok_vU) (fun v h => by cases h)
    obtain ⟨t, a1, o, b1, b2, b3⟩ := Kw s₁ hh0 X0
    exact ⟨t, o, a1, b1, b2, ⟨b3.1, b3.2⟩⟩
theorem ksplit0 (z : D 9 0 = 0) : ATt g M_Ke_split "java/lang/IllegalStateException" [vR 0] D := by
  refine att_intro mc_Ke_split (Nat.le_of_ble_eq_true rfl) rfl ?_
  refine f_aload_n d_Ke_split_0 rfl ?_
  refine f_getR (k := 2) (off := 9) zc_Ke l_Ke_26 fr_Ke_planned d_Ke_split_1 zk_0 (zk_lt zk_0 (by decide)) rfl ?_
  refine f_getIN (k := 0) zc_Pr l_Ke_122 fi_Pr_ready d_Ke_split_4 zk_9 (zk_lt zk_9 (by decide)) ?_
  refine f_if_ne (tgt := 18) d_Ke_split_7 (by decide) (fun c => absurd z c) (fun _ => ?_)
  exact f_throw (by decide +kernel) own_S ins_S l_Ke_129 d_Ke_split_10 d_Ke_split_13 d_Ke_split_14 d_Ke_split_17 (by decide)
theorem ksplit1 (z : D 9 0 ≠ 0) {P : Int → DD → Prop} (h : CI g M_Sp_workOut [vR 573, vR 1, vR 6, vR 457, vR 391] D P) (hb : ∀ v D', P v D' → v = 0 ∨ v = 1) : CI g M_Ke_split [vR 0] D P := by
  refine CI.intro mc_Ke_split (Nat.le_of_ble_eq_true rfl) rfl ?_
  unfold Sg
  refine q_aload_n d_Ke_split_0 rfl ?_
  refine p_getR (k := 2) (b := 9) zc_Ke l_Ke_26 fr_Ke_planned d_Ke_split_1 zk_0 rfl ?_
  refine p_getIN (k := 0) zc_Pr l_Ke_122 fi_Pr_ready d_Ke_split_4 zk_9 ?_
  refine q_if_ne (tgt := 18) d_Ke_split_7 (by decide) (fun _ => ?_) (fun c => absurd c z)
  refine q_aload_n d_Ke_split_18 rfl ?_
  refine p_getR (k := 7) (b := 573) zc_Ke l_Ke_57 fr_Ke_splitter d_Ke_split_19 zk_0 rfl ?_
  refine q_aload_n d_Ke_split_22 rfl ?_
  refine p_getR (k := 0) (b := 1) zc_Ke l_Ke_12 fr_Ke_jobs d_Ke_split_23 zk_0 rfl ?_
  refine q_aload_n d_Ke_split_26 rfl ?_
  refine p_getR (k := 1) (b := 6) zc_Ke l_Ke_19 fr_Ke_levels d_Ke_split_27 zk_0 rfl ?_
  refine q_aload_n d_Ke_split_30 rfl ?_
  refine p_getR (k := 5) (b := 457) zc_Ke l_Ke_43 fr_Ke_planner d_Ke_split_31 zk_0 rfl ?_
  refine q_aload_n d_Ke_split_34 rfl ?_
  refine p_getR (k := 4) (b := 391) zc_Ke l_Ke_36 fr_Ke_reckoner d_Ke_split_35 zk_0 rfl ?_
  refine p_callV (as := [vR 1, vR 6, vR 457, vR 391]) (st := []) (a := 573) mc_Sp_workOut mv_Sp_workOut l_Ke_132 zc_Sp rfl d_Ke_split_38 rfl rfl rfl zk_573 (CI.to (h.mono fun v D1 r1 => ?_))
  refine q_if_eq (tgt := 48) d_Ke_split_41 (by decide) (fun c => ?_) (fun c => ?_)
  · refine q_iconst d_Ke_split_48 (by decide) ?_
    exact q_iret d_Ke_split_49 (Or.inl rfl) ⟨Nat.le_refl _, Nat.le_refl _⟩ (retI (by rw [← c]; exact r1))
  · refine q_iconst d_Ke_split_44 (by decide) ?_
    refine q_goto (tgt := 49) d_Ke_split_45 (by decide) ?_
    exact q_iret d_Ke_split_49 (Or.inl rfl) ⟨Nat.le_refl _, Nat.le_refl _⟩ (retI (by rw [show (1 : Int) = v by have := hb v D1 r1; omega]; exact r1))
theorem kstep_0 {A : Nat → Prop} (k18 : ¬ ((a = 0 ∨ a = 1) ∧ (c = 0 ∨ c = 1)) → Zf A K F g M_Ke_step mc ms 18 [vR 0, vI a, vI b, vI c, vU] [] zE D ca sa) (k26 : (a = 0 ∨ a = 1) ∧ (c = 0 ∨ c = 1) → Zf A K F g M_Ke_step mc ms 26 [vR 0, vI a, vI b, vI c, vU] [] zE D ca sa) : Zf A K F g M_Ke_step mc ms 0 [vR 0, vI a, vI b, vI c, vU] [] zE D ca sa := by
  have k9 : (a = 0 ∨ a = 1) → Zf A K F g M_Ke_step mc ms 9 [vR 0, vI a, vI b, vI c, vU] [] zE D ca sa := fun h => by
    refine f_iload_n d_Ke_step_9 rfl ?_
    refine f_if_eq (tgt := 26) d_Ke_step_10 (by decide) (fun q => k26 ⟨h, Or.inl q⟩) (fun q => ?_)
    refine f_iload_n d_Ke_step_13 rfl ?_
    refine f_iconst d_Ke_step_14 (by decide) ?_
    exact f_icmp_eq (tgt := 26) d_Ke_step_15 (by decide) (fun q2 => k26 ⟨h, Or.inr q2⟩) (fun q2 => k18 fun z => z.2.elim q q2)
  refine f_iload_n d_Ke_step_0 rfl ?_
  refine f_if_eq (tgt := 9) d_Ke_step_1 (by decide) (fun q => k9 (Or.inl q)) (fun q => ?_)
  refine f_iload_n d_Ke_step_4 rfl ?_
  refine f_iconst d_Ke_step_5 (by decide) ?_
  exact f_icmp_ne (tgt := 18) d_Ke_step_6 (by decide) (fun q2 => k18 fun z => z.1.elim q q2) (fun q2 => k9 (Or.inr q2))
theorem kstep2 (e : stepT D a b c = 2) : ATt g M_Ke_step "java/lang/IllegalArgumentException" [vR 0, vI a, vI b, vI c] D := by
  refine att_intro mc_Ke_step (Nat.le_of_ble_eq_true rfl) rfl ?_
  refine kstep_0 (fun _ => ?_) (fun h => ?_)
  · exact f_throw (by decide +kernel) own_A ins_A l_Ke_135 d_Ke_step_18 d_Ke_step_21 d_Ke_step_22 d_Ke_step_25 (by decide)
  · unfold stepT at e
    rw [if_pos h] at e
    split at e <;> omega
theorem kstep1 (e : stepT D a b c = 1) : ATt g M_Ke_step "java/lang/IndexOutOfBoundsException" [vR 0, vI a, vI b, vI c] D := by
  have s41 : ∀ P : Nat, zk P = (0, 5, 0) → ¬ (D P 0 ≠ 0 ∧ 0 ≤ b ∧ b < D P 1) → Zf nA (KT g D) (FTh g "java/lang/IndexOutOfBoundsException" D) g M_Ke_step 1 6 41 [vR 0, vI a, vI b, vI c, vU] [vR P] zE D 0 0 := fun P hP no => by
    refine f_astore d_Ke_step_41 (by decide) (L' := [vR 0, vI a, vI b, vI c, vR P]) rfl ?_
    refine f_aload d_Ke_step_43 rfl ?_
    refine f_iload_n d_Ke_step_45 rfl ?_
    refine f_callR (as := [vI b]) (st := []) (a := P) mc_Pr_hasStep mv_Pr_hasStep l_Ke_138 zc_Pr rfl d_Ke_step_46 rfl rfl rfl hP (zk_lt hP (by decide)) ⟨by decide, by decide⟩ (hasStepR hP) (fun x hx => ?_)
    rw [if_neg no] at hx
    refine f_if_ne (tgt := 60) d_Ke_step_49 (by decide) (fun q => absurd hx q) (fun _ => ?_)
    exact f_throw (by decide +kernel) own_B ins_B l_Ke_141 d_Ke_step_52 d_Ke_step_55 d_Ke_step_56 d_Ke_step_59 (by decide)
  refine att_intro mc_Ke_step (Nat.le_of_ble_eq_true rfl) rfl ?_
  refine kstep_0 (fun h => ?_) (fun h => ?_)
  · unfold stepT at e
    rw [if_neg h] at e
    omega
  · unfold stepT at e
    rw [if_pos h] at e
    have no : ¬ ((a = 0 ∧ D 9 0 ≠ 0 ∧ 0 ≤ b ∧ b < D 9 1) ∨ (a = 1 ∧ D 200 0 ≠ 0 ∧ 0 ≤ b ∧ b < D 200 1)) := fun z => by rw [if_pos z] at e; omega
    refine f_iload_n d_Ke_step_26 rfl ?_
    refine f_if_ne (tgt := 37) d_Ke_step_27 (by decide) (fun q => ?_) (fun q => ?_)
    · refine f_aload_n d_Ke_step_37 rfl ?_
      refine f_getR (k := 3) (off := 200) zc_Ke l_Ke_30 fr_Ke_foreseen d_Ke_step_38 zk_0 (zk_lt zk_0 (by decide)) rfl ?_
      exact s41 200 zk_200 fun z => no (Or.inr ⟨h.1.resolve_left q, z⟩)
    · refine f_aload_n d_Ke_step_30 rfl ?_
      refine f_getR (k := 2) (off := 9) zc_Ke l_Ke_26 fr_Ke_planned d_Ke_step_31 zk_0 (zk_lt zk_0 (by decide)) rfl ?_
      refine f_goto (tgt := 41) d_Ke_step_34 (by decide) ?_
      exact s41 9 zk_9 fun z => no (Or.inl ⟨q, z⟩)
end RDO
