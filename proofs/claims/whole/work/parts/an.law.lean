/-! the law: rules, and a round for each kind of call -/
section LAW
variable {g : GG} {M M' : MI} {mc ms : Nat} {Q' : Option VV → EE → DD → Prop} {pc : Nat} {L L' st : List VV} {E : EE} {D D' : DD} {ca sa ca' sa' : Nat} {K : KZ} {F : FZ} {A : Nat → Prop} {i : Int}
theorem zf_widen (h : Zf A K F g M mc ms pc L st E D ca' sa') (h1 : ca ≤ ca' ∧ sa ≤ sa') : Zf A K F g M mc ms pc L st E D ca sa := by
  intro p l e R s m args below meth c C hR H locs ls hH hS hl hL hs
  exact W.widen h1.1 h1.2 (h p l e R s m args below meth c C hR H locs ls hH hS hl hL hs)
theorem f_mask (B : List Bool) (h : lmk B L = L') (k : Zf A K F g M mc ms pc L' st E D ca sa) : Zf A K F g M mc ms pc L st E D ca sa := by
  subst h
  intro p l e R s m args below meth c C hR H locs ls hH hS hl hL hs
  exact k p l e R s m args below meth c C hR H locs ls hH hS ⟨hl.1, hl.2.1, fun j v hj hv => hl.2.2 j v (lmk_get B L j v hj hv) hv⟩ (lmk_ok B L hL) hs
/-- what is known of the law's run -/
def KL (g : GG) : KZ := fun p l e R s m args below meth c => l.flags = flags0 ∧ IR g s
theorem f_callSW {n index : Nat} {as stk : List VV} {hh : List (Nat × Nat × Nat × Nat)} (hcw : Cond.codeWith (mY M') (mC M') (mL M') (mR M') hh ∈ zT) (hini : Cond.initialized (mY M').cls ∈ zT) (hstt : Cond.static (mY M') ∈ zT) (hy : ((mY M').cls ≠ "java/lang/invoke/MethodHandle" ∧ (mY M').cls ≠ "java/lang/invoke/VarHandle") ∧ (parseMethodDescriptor (mY M').desc).map (fun d => d.parameters.length) = some n)
    (hl : Cond.methodLink (mY M).cls index (mY M') ∈ zT) (d : decode (mC M) pc = .ok (.invokestatic index, 3)) (hk : callok M M' st = true) (hn : as.length = n) (hstk : stk = as.reverse ++ st) (hcs : ca + 1 ≤ mc ∧ sa + 6 ≤ ms) (hA : ATw g M' hh as D Q')
    (kk : ∀ r E' D', Q' r E' D' → Zf (zfr g) (KL g) F g M mc ms (pc + 3) L (r.toList ++ st) E' D' (ca + 1) (sa + 6)) : Zf (zfr g) (KL g) F g M mc ms pc L stk zE D ca sa := by
  subst hstk
  intro p l e R s m args below meth c X hR H locs ls hH hS hl' hL hs
  have hts := X.2.2.2.2.2.1
  obtain ⟨hfl, hir⟩ := hR.2
  obtain ⟨hsa, hss⟩ := ok_splitS hs
  rw [map_revS]
  have h0 : gB g ≤ s.heap.size := X.2.2.2.2.2.2.2.2.2.2.2.2.2
  have hsr := callok_R (mc' := 1) (ms' := 6) hk hR.1
  have hpreP := pre_call X hH hS hsa
  have irU : ∀ U : State, U.heap = H → s.WarmedH U.vm → IR g U := fun U hU hW => hir.moved hW (fun q hq => by
    rw [hU]; exact hS.2.1 q (Nat.lt_of_lt_of_le hq h0) (by show ¬ gB g ≤ q; omega))
  have hK : Back l R p e below s args (mY M') 3 8 (PreOf R 1 6 (zPt g as D)) (PostOf (Qp g Q') 1 6 (zfr g)) := by
    refine va_backW (hh := hh) (bytes := mC M') (maxL := mL M') (ret := mR M') (hA l hfl) (fun a U f mk h => ⟨blind_Pc a U f mk h.1, h.2.moved (State.WarmedH.refl U) (fun _ _ => rfl)⟩) rfl rfl hsr.1 hsr.2 (fun w hw a' U hW => ?_) List.mem_cons_self (fun a' U hW => word_at hW (good_of_word (zT_good _ hini)) (hts _ hini))
    have hw' : w ∈ zT := (List.mem_cons.mp hw).elim (fun h => h ▸ hcw) (fun h => h)
    exact word_at hW (good_of_word (zT_good _ hw')) (hts _ hw')
  have hr : va_Run p l e R s m args below meth c H locs ca sa 1 6 (F0 m pc ls ((as.map (val g)).reverse ++ st.map (val g))) (st.map (val g)) (Qp g Q' (as.map (val g)).toArray) (zfr g) := by
    intro T hT X0
    obtain ⟨mk, methM, cM, hnamed, hmethM, -, -, -, -, -, -, hsigM⟩ := Cond.codeWith_spec (hts _ hcw)
    have hstatic : methM.isStatic = true := Cond.static_spec hnamed hmethM (hts _ hstt)
    obtain ⟨kP, hkP, -⟩ := className_of_methodNamed hnamed
    have hinitP : kP.init = .initialized := Cond.initialized_spec (findClass_of_methodNamed hnamed) hkP (hts _ hini)
    obtain ⟨vm₁, X₁, hstep₁⟩ := X0.invokestatic X.1 (own := (mY M).cls) (index := index) X.2.2.2.2.1 (hts _ hl) hnamed hmethM hstatic hkP hinitP hy.1 (g := F0 m pc ls ((as.map (val g)).reverse ++ st.map (val g))) rfl (argsL := as.map (val g)) (rest := st.map (val g)) (by
      have h2 := hy.2
      rw [hsigM] at h2
      rw [List.length_map, hn]
      exact (Option.some.inj h2).symm) rfl (by rw [X.2.1]; exact d)
    obtain ⟨v, ⟨U', l2, c2, s2⟩, X', ⟨g', mk', t, L1, e1, e2, hq, h1, hL1, h2, h3⟩, hsteps⟩ := hK m meth c ⟨T.setVm vm₁, locs, ca, sa⟩ (F0 m pc ls (st.map (val g))) (.invokestatic index) mk (as.map (val g)).toArray X₁ rfl (hl'.1.trans X.2.2.1.symm) (by rw [X.2.1]; exact d) (callok_W (m := m) (pc := pc) (ls := ls) (st0 := st.map (val g)) hk) (X₁.named hnamed)
      ⟨Nat.le_trans hcs.1 hR.1.2.2.1, Nat.le_trans hcs.2 hR.1.2.2.2, hpreP (T.setVm vm₁) hT X₁.warmed, irU (T.setVm vm₁) hT X₁.warmed⟩
    dsimp only [Pt.U, Pt.locs, Pt.cells, Pt.slots] at X' e1 e2 h1 h2 h3
    subst h1; subst h2; subst h3
    exact ⟨v, (T.setVm vm₁).calling g' mk' (as.map (val g)).toArray, t, U', L1, hT, X', hL1, e1, e2, hq, fun target h => hstep₁ _ fun acts => by rw [doInvoke_state]; exact hsteps.trans h⟩
  exact zf_call_core X hR hr hS hl' hL hss kk
theorem i2d_fin {x : Int} (h : R32 x) : ∃ s c q, Jvm.FP.Core.val64 (zdu (zi2d x)) = .fin s c q := by
  unfold zi2d
  rw [zdu_of, show Jvm.FP.i2d (Int32.ofInt x) = Jvm.FP.Core.i2d (Int32.ofInt x) from rfl, Jvm.FP.Core.val64_i2d, i32_ti h]
  obtain ⟨c, q, e, u⟩ := Jvm.FP.Core.round_exact Jvm.FP.Core.good_b64 (decide (x < 0)) (c := x.natAbs) (q := 0) (Nat.lt_of_le_of_lt (show x.natAbs ≤ 2147483648 by omega) (by decide)) (by decide) (by decide)
  exact ⟨_, c, q, e⟩
theorem eighth_nn {x : Int} (h : R32 x) : vf_n64 (FP.dmul (zdu (zi2d x)) (zdu 4593671619917905920)) := by
  refine vn.mpr fun z => ?_
  have e1 : Jvm.FP.Core.val64 (Jvm.FP.dmul (zdu (zi2d x)) (zdu 4593671619917905920)) = Jvm.FP.Core.round Jvm.FP.Core.b64 (Jvm.FP.Core.exactProduct (Jvm.FP.Core.val64 (zdu (zi2d x))) (Jvm.FP.Core.val64 (zdu 4593671619917905920))) := Jvm.FP.Core.val64_dmul _ _
  obtain ⟨s, c, q, h1⟩ := i2d_fin h
  obtain ⟨c', q', h2⟩ : ∃ c' q', Jvm.FP.Core.val64 (zdu 4593671619917905920) = .fin false c' q' := ⟨4503599627370496, -55, by decide +kernel⟩
  rw [h1, h2] at e1
  obtain ⟨s', m⟩ : ∃ s', Jvm.FP.Core.round Jvm.FP.Core.b64 (Jvm.FP.Core.exactProduct (.fin s c q) (.fin false c' q')) = Jvm.FP.Core.roundRatio Jvm.FP.Core.b64 s' (c * c') 1 (q + q') := ⟨_, rfl⟩
  rw [m] at e1
  have z' : Jvm.FP.Core.val64 (Jvm.FP.dmul (zdu (zi2d x)) (zdu 4593671619917905920)) = .nan := z
  rw [e1] at z'
  rcases Jvm.FP.Core.roundRatio_cases Jvm.FP.Core.b64 s' (c * c') 1 (q + q') with ⟨c9, q9, r⟩ | r <;> rw [r] at z' <;> cases z'
/-- the law's own record; a script's word -/
def M_La_law : MI := (x, code, 9, ret, 40)
abbrev sx (g : GG) (j : Int) : Int := ((gx g) j.toNat).toInt
theorem sx_32 {j : Int} : R32 (sx g j) := ⟨Int32.le_toInt _, by have := Int32.toInt_lt ((gx g) j.toNat); show ((gx g) j.toNat).toInt ≤ 2147483647; omega⟩
abbrev lL (i : Int) : List VV := [vS, vR 0, vR 708, vR 734, vI i, vU, vU, vU, vU]
theorem law_0 (h : INV D) (hi : 0 ≤ i ∧ i + 5 ≤ gL g) (hL : gL g ≤ 2560) (hcs : ca + 1 ≤ mc ∧ sa + 6 ≤ ms) (k : ∀ D2, INV D2 → Zf (zfr g) (KL g) F g M_La_law mc ms 733 (lL i) [] zE D2 (ca + 1) (sa + 6)) : Zf (zfr g) (KL g) F g M_La_law mc ms 120 (lL i) [] zE D ca sa := by
  have k := fun D2 hd => zf_widen (k D2 hd) (ca := ca) (sa := sa) ⟨by omega, by omega⟩
  refine f_aload_n d_La_law_120 rfl ?_
  refine f_aload_nS d_La_law_121 rfl ?_
  refine f_iload d_La_law_122 rfl ?_
  refine f_iconst d_La_law_124 (by decide) ?_
  refine f_iadd d_La_law_125 (by unfold R32; omega) ?_
  refine f_sld d_La_law_126 ⟨by omega, by omega⟩ ?_
  refine f_aload_nS d_La_law_127 rfl ?_
  refine f_iload d_La_law_128 rfl ?_
  refine f_iconst d_La_law_130 (by decide) ?_
  refine f_iadd d_La_law_131 (by unfold R32; omega) ?_
  refine f_sld d_La_law_132 ⟨by omega, by omega⟩ ?_
  refine f_aload_nS d_La_law_133 rfl ?_
  refine f_iload d_La_law_134 rfl ?_
  refine f_iconst d_La_law_136 (by decide) ?_
  refine f_iadd d_La_law_137 (by unfold R32; omega) ?_
  refine f_sld d_La_law_138 ⟨by omega, by omega⟩ ?_
  refine f_callV (as := [vI (sx g (i + 1)), vI (sx g (i + 2)), vI (sx g (i + 3))]) (st := []) (a := 0) mc_Ke_job mv_Ke_job l_La_27 zc_Ke rfl d_La_law_139 rfl rfl rfl zk_0 (zk_lt zk_0 (by decide)) ⟨by omega, by omega⟩ (pr_job h) (fun r E' D1 hr => ?_)
  obtain ⟨rfl, v, rfl, hr⟩ := hr
  refine f_aload_n d_La_law_142 rfl ?_
  refine f_aload_nS d_La_law_143 rfl ?_
  refine f_iload d_La_law_144 rfl ?_
  refine f_iconst d_La_law_146 (by decide) ?_
  refine f_iadd d_La_law_147 (by unfold R32; omega) ?_
  refine f_sld d_La_law_148 ⟨by omega, by omega⟩ ?_
  refine f_aload_nS d_La_law_149 rfl ?_
  refine f_iload d_La_law_150 rfl ?_
  refine f_iconst d_La_law_152 (by decide) ?_
  refine f_iadd d_La_law_153 (by unfold R32; omega) ?_
  refine f_sld d_La_law_154 ⟨by omega, by omega⟩ ?_
  refine f_aload_nS d_La_law_155 rfl ?_
  refine f_iload d_La_law_156 rfl ?_
  refine f_iconst d_La_law_158 (by decide) ?_
  refine f_iadd d_La_law_159 (by unfold R32; omega) ?_
  refine f_sld d_La_law_160 ⟨by omega, by omega⟩ ?_
  refine f_callV (as := [vI (sx g (i + 1)), vI (sx g (i + 2)), vI (sx g (i + 3))]) (st := [vI v]) (a := 708) mc_Mo_job mv_Mo_job l_La_30 zc_Mo rfl d_La_law_161 rfl rfl rfl zk_708 (zk_lt zk_708 (by decide)) ⟨by omega, by omega⟩ hr (fun r E' D2 hr => ?_)
  obtain ⟨rfl, v2, rfl, e, hI⟩ := hr
  subst e
  exact f_icmp_eq (tgt := 733) d_La_law_164 (by decide) (fun _ => k D2 hI) (fun q => absurd rfl q)
theorem law_1 (h : INV D) (hi : 0 ≤ i ∧ i + 5 ≤ gL g) (hL : gL g ≤ 2560) (hcs : ca + 1 ≤ mc ∧ sa + 6 ≤ ms) (k : ∀ D2, INV D2 → Zf (zfr g) (KL g) F g M_La_law mc ms 733 (lL i) [] zE D2 (ca + 1) (sa + 6)) : Zf (zfr g) (KL g) F g M_La_law mc ms 169 (lL i) [] zE D ca sa := by
  have k := fun D2 hd => zf_widen (k D2 hd) (ca := ca) (sa := sa) ⟨by omega, by omega⟩
  refine f_aload_n d_La_law_169 rfl ?_
  refine f_aload_nS d_La_law_170 rfl ?_
  refine f_iload d_La_law_171 rfl ?_
  refine f_iconst d_La_law_173 (by decide) ?_
  refine f_iadd d_La_law_174 (by unfold R32; omega) ?_
  refine f_sld d_La_law_175 ⟨by omega, by omega⟩ ?_
  refine f_aload_nS d_La_law_176 rfl ?_
  refine f_iload d_La_law_177 rfl ?_
  refine f_iconst d_La_law_179 (by decide) ?_
  refine f_iadd d_La_law_180 (by unfold R32; omega) ?_
  refine f_sld d_La_law_181 ⟨by omega, by omega⟩ ?_
  refine f_callV (as := [vI (sx g (i + 1)), vI (sx g (i + 2))]) (st := []) (a := 0) mc_Ke_level mv_Ke_level l_La_31 zc_Ke rfl d_La_law_182 rfl rfl rfl zk_0 (zk_lt zk_0 (by decide)) ⟨by omega, by omega⟩ (pr_level h) (fun r E' D1 hr => ?_)
  obtain ⟨rfl, v, rfl, hr⟩ := hr
  refine f_aload_n d_La_law_185 rfl ?_
  refine f_aload_nS d_La_law_186 rfl ?_
  refine f_iload d_La_law_187 rfl ?_
  refine f_iconst d_La_law_189 (by decide) ?_
  refine f_iadd d_La_law_190 (by unfold R32; omega) ?_
  refine f_sld d_La_law_191 ⟨by omega, by omega⟩ ?_
  refine f_aload_nS d_La_law_192 rfl ?_
  refine f_iload d_La_law_193 rfl ?_
  refine f_iconst d_La_law_195 (by decide) ?_
  refine f_iadd d_La_law_196 (by unfold R32; omega) ?_
  refine f_sld d_La_law_197 ⟨by omega, by omega⟩ ?_
  refine f_callV (as := [vI (sx g (i + 1)), vI (sx g (i + 2))]) (st := [vI v]) (a := 708) mc_Mo_level mv_Mo_level l_La_35 zc_Mo rfl d_La_law_198 rfl rfl rfl zk_708 (zk_lt zk_708 (by decide)) ⟨by omega, by omega⟩ hr (fun r E' D2 hr => ?_)
  obtain ⟨rfl, v2, rfl, e, hI⟩ := hr
  subst e
  exact f_icmp_eq (tgt := 733) d_La_law_201 (by decide) (fun _ => k D2 hI) (fun q => absurd rfl q)
theorem law_2 (h : INV D) (hi : 0 ≤ i ∧ i + 5 ≤ gL g) (hL : gL g ≤ 2560) (hcs : ca + 1 ≤ mc ∧ sa + 6 ≤ ms) (k : ∀ D2, INV D2 → Zf (zfr g) (KL g) F g M_La_law mc ms 733 (lL i) [] zE D2 (ca + 1) (sa + 6)) : Zf (zfr g) (KL g) F g M_La_law mc ms 206 (lL i) [] zE D ca sa := by
  have k := fun D2 hd => zf_widen (k D2 hd) (ca := ca) (sa := sa) ⟨by omega, by omega⟩
  refine f_aload_n d_La_law_206 rfl ?_
  refine f_callV (as := []) (st := []) (a := 0) mc_Ke_convex mv_Ke_convex l_La_36 zc_Ke rfl d_La_law_207 rfl rfl rfl zk_0 (zk_lt zk_0 (by decide)) ⟨by omega, by omega⟩ (pr_convex h) (fun r E' D1 hr => ?_)
  obtain ⟨rfl, v, rfl, hr⟩ := hr
  refine f_aload_n d_La_law_210 rfl ?_
  refine f_callV (as := []) (st := [vI v]) (a := 708) mc_Mo_convex mv_Mo_convex l_La_39 zc_Mo rfl d_La_law_211 rfl rfl rfl zk_708 (zk_lt zk_708 (by decide)) ⟨by omega, by omega⟩ hr (fun r E' D2 hr => ?_)
  obtain ⟨rfl, v2, rfl, e, hI⟩ := hr
  subst e
  exact f_icmp_eq (tgt := 733) d_La_law_214 (by decide) (fun _ => k D2 hI) (fun q => absurd rfl q)
theorem law_3 (h : INV D) (hi : 0 ≤ i ∧ i + 5 ≤ gL g) (hL : gL g ≤ 2560) (hcs : ca + 1 ≤ mc ∧ sa + 6 ≤ ms) (k : ∀ D2, INV D2 → Zf (zfr g) (KL g) F g M_La_law mc ms 733 (lL i) [] zE D2 (ca + 1) (sa + 6)) : Zf (zfr g) (KL g) F g M_La_law mc ms 219 (lL i) [] zE D ca sa := by
  have k := fun D2 hd => zf_widen (k D2 hd) (ca := ca) (sa := sa) ⟨by omega, by omega⟩
  refine f_aload_n d_La_law_219 rfl ?_
  refine f_callV (as := []) (st := []) (a := 0) mc_Ke_clear mv_Ke_clear l_La_40 zc_Ke rfl d_La_law_220 rfl rfl rfl zk_0 (zk_lt zk_0 (by decide)) ⟨by omega, by omega⟩ (pr_clear h) (fun r E' D1 hr => ?_)
  obtain ⟨rfl, v, rfl, hr⟩ := hr
  refine f_aload_n d_La_law_223 rfl ?_
  refine f_callV (as := []) (st := [vI v]) (a := 708) mc_Mo_clear mv_Mo_clear l_La_43 zc_Mo rfl d_La_law_224 rfl rfl rfl zk_708 (zk_lt zk_708 (by decide)) ⟨by omega, by omega⟩ hr (fun r E' D2 hr => ?_)
  obtain ⟨rfl, v2, rfl, e, hI⟩ := hr
  subst e
  exact f_icmp_eq (tgt := 733) d_La_law_227 (by decide) (fun _ => k D2 hI) (fun q => absurd rfl q)
theorem law_4 (h : INV D) (hi : 0 ≤ i ∧ i + 5 ≤ gL g) (hL : gL g ≤ 2560) (hcs : ca + 1 ≤ mc ∧ sa + 6 ≤ ms) (k : ∀ D2, INV D2 → Zf (zfr g) (KL g) F g M_La_law mc ms 733 (lL i) [] zE D2 (ca + 1) (sa + 6)) : Zf (zfr g) (KL g) F g M_La_law mc ms 232 (lL i) [] zE D ca sa := by
  have k := fun D2 hd => zf_widen (k D2 hd) (ca := ca) (sa := sa) ⟨by omega, by omega⟩
  refine f_aload_n d_La_law_232 rfl ?_
  refine f_aload_nS d_La_law_233 rfl ?_
  refine f_iload d_La_law_234 rfl ?_
  refine f_iconst d_La_law_236 (by decide) ?_
  refine f_iadd d_La_law_237 (by unfold R32; omega) ?_
  refine f_sld d_La_law_238 ⟨by omega, by omega⟩ ?_
  refine f_aload_nS d_La_law_239 rfl ?_
  refine f_iload d_La_law_240 rfl ?_
  refine f_iconst d_La_law_242 (by decide) ?_
  refine f_iadd d_La_law_243 (by unfold R32; omega) ?_
  refine f_sld d_La_law_244 ⟨by omega, by omega⟩ ?_
  refine f_callV (as := [vI (sx g (i + 1)), vI (sx g (i + 2))]) (st := []) (a := 0) mc_Ke_about mv_Ke_about l_La_44 zc_Ke rfl d_La_law_245 rfl rfl rfl zk_0 (zk_lt zk_0 (by decide)) ⟨by omega, by omega⟩ (pr_about h) (fun r E' D1 hr => ?_)
  obtain ⟨rfl, v, rfl, hr⟩ := hr
  refine f_aload_n d_La_law_248 rfl ?_
  refine f_aload_nS d_La_law_249 rfl ?_
  refine f_iload d_La_law_250 rfl ?_
  refine f_iconst d_La_law_252 (by decide) ?_
  refine f_iadd d_La_law_253 (by unfold R32; omega) ?_
  refine f_sld d_La_law_254 ⟨by omega, by omega⟩ ?_
  refine f_aload_nS d_La_law_255 rfl ?_
  refine f_iload d_La_law_256 rfl ?_
  refine f_iconst d_La_law_258 (by decide) ?_
  refine f_iadd d_La_law_259 (by unfold R32; omega) ?_
  refine f_sld d_La_law_260 ⟨by omega, by omega⟩ ?_
  refine f_callV (as := [vI (sx g (i + 1)), vI (sx g (i + 2))]) (st := [vI v]) (a := 708) mc_Mo_about mv_Mo_about l_La_47 zc_Mo rfl d_La_law_261 rfl rfl rfl zk_708 (zk_lt zk_708 (by decide)) ⟨by omega, by omega⟩ hr (fun r E' D2 hr => ?_)
  obtain ⟨rfl, v2, rfl, e, hI⟩ := hr
  subst e
  exact f_icmp_eq (tgt := 733) d_La_law_264 (by decide) (fun _ => k D2 hI) (fun q => absurd rfl q)
theorem law_5 (h : INV D) (hi : 0 ≤ i ∧ i + 5 ≤ gL g) (hL : gL g ≤ 2560) (hcs : ca + 1 ≤ mc ∧ sa + 6 ≤ ms) (k : ∀ D2, INV D2 → Zf (zfr g) (KL g) F g M_La_law mc ms 733 (lL i) [] zE D2 (ca + 1) (sa + 6)) : Zf (zfr g) (KL g) F g M_La_law mc ms 269 (lL i) [] zE D ca sa := by
  have k := fun D2 hd => zf_widen (k D2 hd) (ca := ca) (sa := sa) ⟨by omega, by omega⟩
  refine f_aload_n d_La_law_269 rfl ?_
  refine f_callV (as := []) (st := []) (a := 0) mc_Ke_plan mv_Ke_plan l_La_48 zc_Ke rfl d_La_law_270 rfl rfl rfl zk_0 (zk_lt zk_0 (by decide)) ⟨by omega, by omega⟩ (pr_plan h) (fun r E' D1 hr => ?_)
  obtain ⟨rfl, v, rfl, hr⟩ := hr
  refine f_aload_n d_La_law_273 rfl ?_
  refine f_callV (as := []) (st := [vI v]) (a := 708) mc_Mo_plan mv_Mo_plan l_La_51 zc_Mo rfl d_La_law_274 rfl rfl rfl zk_708 (zk_lt zk_708 (by decide)) ⟨by omega, by omega⟩ hr (fun r E' D2 hr => ?_)
  obtain ⟨rfl, v2, rfl, e, hI⟩ := hr
  subst e
  exact f_icmp_eq (tgt := 733) d_La_law_277 (by decide) (fun _ => k D2 hI) (fun q => absurd rfl q)
theorem law_6 (h : INV D) (hi : 0 ≤ i ∧ i + 5 ≤ gL g) (hL : gL g ≤ 2560) (hcs : ca + 1 ≤ mc ∧ sa + 6 ≤ ms) (k : ∀ D2, INV D2 → Zf (zfr g) (KL g) F g M_La_law mc ms 733 (lL i) [] zE D2 (ca + 1) (sa + 6)) : Zf (zfr g) (KL g) F g M_La_law mc ms 282 (lL i) [] zE D ca sa := by
  have k := fun D2 hd => zf_widen (k D2 hd) (ca := ca) (sa := sa) ⟨by omega, by omega⟩
  refine f_aload_n d_La_law_282 rfl ?_
  refine f_callV (as := []) (st := []) (a := 0) mc_Ke_ahead mv_Ke_ahead l_La_52 zc_Ke rfl d_La_law_283 rfl rfl rfl zk_0 (zk_lt zk_0 (by decide)) ⟨by omega, by omega⟩ (pr_ahead h) (fun r E' D1 hr => ?_)
  obtain ⟨rfl, v, rfl, hr⟩ := hr
  refine f_aload_n d_La_law_286 rfl ?_
  refine f_callV (as := []) (st := [vI v]) (a := 708) mc_Mo_ahead mv_Mo_ahead l_La_55 zc_Mo rfl d_La_law_287 rfl rfl rfl zk_708 (zk_lt zk_708 (by decide)) ⟨by omega, by omega⟩ hr (fun r E' D2 hr => ?_)
  obtain ⟨rfl, v2, rfl, e, hI⟩ := hr
  subst e
  exact f_icmp_eq (tgt := 733) d_La_law_290 (by decide) (fun _ => k D2 hI) (fun q => absurd rfl q)
theorem law_9 (h : INV D) (hi : 0 ≤ i ∧ i + 5 ≤ gL g) (hL : gL g ≤ 2560) (hcs : ca + 1 ≤ mc ∧ sa + 6 ≤ ms) (k : ∀ D2, INV D2 → Zf (zfr g) (KL g) F g M_La_law mc ms 733 (lL i) [] zE D2 (ca + 1) (sa + 6)) : Zf (zfr g) (KL g) F g M_La_law mc ms 419 (lL i) [] zE D ca sa := by
  have k := fun D2 hd => zf_widen (k D2 hd) (ca := ca) (sa := sa) ⟨by omega, by omega⟩
  refine f_aload_n d_La_law_419 rfl ?_
  refine f_aload_nS d_La_law_420 rfl ?_
  refine f_iload d_La_law_421 rfl ?_
  refine f_iconst d_La_law_423 (by decide) ?_
  refine f_iadd d_La_law_424 (by unfold R32; omega) ?_
  refine f_sld d_La_law_425 ⟨by omega, by omega⟩ ?_
  refine f_aload_nS d_La_law_426 rfl ?_
  refine f_iload d_La_law_427 rfl ?_
  refine f_iconst d_La_law_429 (by decide) ?_
  refine f_iadd d_La_law_430 (by unfold R32; omega) ?_
  refine f_sld d_La_law_431 ⟨by omega, by omega⟩ ?_
  refine f_callV (as := [vI (sx g (i + 1)), vI (sx g (i + 2))]) (st := []) (a := 0) mc_Ke_print mv_Ke_print l_La_69 zc_Ke rfl d_La_law_432 rfl rfl rfl zk_0 (zk_lt zk_0 (by decide)) ⟨by omega, by omega⟩ (pr_print h) (fun r E' D1 hr => ?_)
  obtain ⟨rfl, v, rfl, hr⟩ := hr
  refine f_aload_n d_La_law_435 rfl ?_
  refine f_aload_nS d_La_law_436 rfl ?_
  refine f_iload d_La_law_437 rfl ?_
  refine f_iconst d_La_law_439 (by decide) ?_
  refine f_iadd d_La_law_440 (by unfold R32; omega) ?_
  refine f_sld d_La_law_441 ⟨by omega, by omega⟩ ?_
  refine f_aload_nS d_La_law_442 rfl ?_
  refine f_iload d_La_law_443 rfl ?_
  refine f_iconst d_La_law_445 (by decide) ?_
  refine f_iadd d_La_law_446 (by unfold R32; omega) ?_
  refine f_sld d_La_law_447 ⟨by omega, by omega⟩ ?_
  refine f_callV (as := [vI (sx g (i + 1)), vI (sx g (i + 2))]) (st := [vI v]) (a := 708) mc_Mo_print mv_Mo_print l_La_72 zc_Mo rfl d_La_law_448 rfl rfl rfl zk_708 (zk_lt zk_708 (by decide)) ⟨by omega, by omega⟩ hr (fun r E' D2 hr => ?_)
  obtain ⟨rfl, v2, rfl, e, hI⟩ := hr
  subst e
  exact f_icmp_eq (tgt := 733) d_La_law_451 (by decide) (fun _ => k D2 hI) (fun q => absurd rfl q)
theorem law_10 (h : INV D) (hi : 0 ≤ i ∧ i + 5 ≤ gL g) (hL : gL g ≤ 2560) (hcs : ca + 1 ≤ mc ∧ sa + 6 ≤ ms) (k : ∀ D2, INV D2 → Zf (zfr g) (KL g) F g M_La_law mc ms 733 (lL i) [] zE D2 (ca + 1) (sa + 6)) : Zf (zfr g) (KL g) F g M_La_law mc ms 456 (lL i) [] zE D ca sa := by
  have k := fun D2 hd => zf_widen (k D2 hd) (ca := ca) (sa := sa) ⟨by omega, by omega⟩
  refine f_aload_n d_La_law_456 rfl ?_
  refine f_aload_nS d_La_law_457 rfl ?_
  refine f_iload d_La_law_458 rfl ?_
  refine f_iconst d_La_law_460 (by decide) ?_
  refine f_iadd d_La_law_461 (by unfold R32; omega) ?_
  refine f_sld d_La_law_462 ⟨by omega, by omega⟩ ?_
  refine f_callV (as := [vI (sx g (i + 1))]) (st := []) (a := 0) mc_Ke_character mv_Ke_character l_La_73 zc_Ke rfl d_La_law_463 rfl rfl rfl zk_0 (zk_lt zk_0 (by decide)) ⟨by omega, by omega⟩ (pr_character h) (fun r E' D1 hr => ?_)
  obtain ⟨rfl, v, rfl, hr⟩ := hr
  refine f_aload_n d_La_law_466 rfl ?_
  refine f_aload_nS d_La_law_467 rfl ?_
  refine f_iload d_La_law_468 rfl ?_
  refine f_iconst d_La_law_470 (by decide) ?_
  refine f_iadd d_La_law_471 (by unfold R32; omega) ?_
  refine f_sld d_La_law_472 ⟨by omega, by omega⟩ ?_
  refine f_callV (as := [vI (sx g (i + 1))]) (st := [vI v]) (a := 708) mc_Mo_character mv_Mo_character l_La_77 zc_Mo rfl d_La_law_473 rfl rfl rfl zk_708 (zk_lt zk_708 (by decide)) ⟨by omega, by omega⟩ hr (fun r E' D2 hr => ?_)
  obtain ⟨rfl, v2, rfl, e, hI⟩ := hr
  subst e
  exact f_icmp_eq (tgt := 733) d_La_law_476 (by decide) (fun _ => k D2 hI) (fun q => absurd rfl q)
theorem law_11 (h : INV D) (hi : 0 ≤ i ∧ i + 5 ≤ gL g) (hL : gL g ≤ 2560) (hcs : ca + 1 ≤ mc ∧ sa + 6 ≤ ms) (k : ∀ D2, INV D2 → Zf (zfr g) (KL g) F g M_La_law mc ms 733 (lL i) [] zE D2 (ca + 1) (sa + 6)) : Zf (zfr g) (KL g) F g M_La_law mc ms 481 (lL i) [] zE D ca sa := by
  have k := fun D2 hd => zf_widen (k D2 hd) (ca := ca) (sa := sa) ⟨by omega, by omega⟩
  refine f_aload_n d_La_law_481 rfl ?_
  refine f_aload_nS d_La_law_482 rfl ?_
  refine f_iload d_La_law_483 rfl ?_
  refine f_iconst d_La_law_485 (by decide) ?_
  refine f_iadd d_La_law_486 (by unfold R32; omega) ?_
  refine f_sld d_La_law_487 ⟨by omega, by omega⟩ ?_
  refine f_aload_nS d_La_law_488 rfl ?_
  refine f_iload d_La_law_489 rfl ?_
  refine f_iconst d_La_law_491 (by decide) ?_
  refine f_iadd d_La_law_492 (by unfold R32; omega) ?_
  refine f_sld d_La_law_493 ⟨by omega, by omega⟩ ?_
  refine f_aload_nS d_La_law_494 rfl ?_
  refine f_iload d_La_law_495 rfl ?_
  refine f_iconst d_La_law_497 (by decide) ?_
  refine f_iadd d_La_law_498 (by unfold R32; omega) ?_
  refine f_sld d_La_law_499 ⟨by omega, by omega⟩ ?_
  refine f_aload_nS d_La_law_500 rfl ?_
  refine f_iload d_La_law_501 rfl ?_
  refine f_iconst d_La_law_503 (by decide) ?_
  refine f_iadd d_La_law_504 (by unfold R32; omega) ?_
  refine f_sld d_La_law_505 ⟨by omega, by omega⟩ ?_
  refine f_callV (as := [vI (sx g (i + 1)), vI (sx g (i + 2)), vI (sx g (i + 3)), vI (sx g (i + 4))]) (st := []) (a := 0) mc_Ke_compare mv_Ke_compare l_La_78 zc_Ke rfl d_La_law_506 rfl rfl rfl zk_0 (zk_lt zk_0 (by decide)) ⟨by omega, by omega⟩ (pr_compare h) (fun r E' D1 hr => ?_)
  obtain ⟨rfl, v, rfl, hr⟩ := hr
  refine f_aload_n d_La_law_509 rfl ?_
  refine f_aload_nS d_La_law_510 rfl ?_
  refine f_iload d_La_law_511 rfl ?_
  refine f_iconst d_La_law_513 (by decide) ?_
  refine f_iadd d_La_law_514 (by unfold R32; omega) ?_
  refine f_sld d_La_law_515 ⟨by omega, by omega⟩ ?_
  refine f_aload_nS d_La_law_516 rfl ?_
  refine f_iload d_La_law_517 rfl ?_
  refine f_iconst d_La_law_519 (by decide) ?_
  refine f_iadd d_La_law_520 (by unfold R32; omega) ?_
  refine f_sld d_La_law_521 ⟨by omega, by omega⟩ ?_
  refine f_aload_nS d_La_law_522 rfl ?_
  refine f_iload d_La_law_523 rfl ?_
  refine f_iconst d_La_law_525 (by decide) ?_
  refine f_iadd d_La_law_526 (by unfold R32; omega) ?_
  refine f_sld d_La_law_527 ⟨by omega, by omega⟩ ?_
  refine f_aload_nS d_La_law_528 rfl ?_
  refine f_iload d_La_law_529 rfl ?_
  refine f_iconst d_La_law_531 (by decide) ?_
  refine f_iadd d_La_law_532 (by unfold R32; omega) ?_
  refine f_sld d_La_law_533 ⟨by omega, by omega⟩ ?_
  refine f_callV (as := [vI (sx g (i + 1)), vI (sx g (i + 2)), vI (sx g (i + 3)), vI (sx g (i + 4))]) (st := [vI v]) (a := 708) mc_Mo_compare mv_Mo_compare l_La_82 zc_Mo rfl d_La_law_534 rfl rfl rfl zk_708 (zk_lt zk_708 (by decide)) ⟨by omega, by omega⟩ hr (fun r E' D2 hr => ?_)
  obtain ⟨rfl, v2, rfl, e, hI⟩ := hr
  subst e
  exact f_icmp_eq (tgt := 733) d_La_law_537 (by decide) (fun _ => k D2 hI) (fun q => absurd rfl q)
theorem law_12 (h : INV D) (hi : 0 ≤ i ∧ i + 5 ≤ gL g) (hL : gL g ≤ 2560) (hcs : ca + 1 ≤ mc ∧ sa + 6 ≤ ms) (k : ∀ D2, INV D2 → Zf (zfr g) (KL g) F g M_La_law mc ms 733 (lL i) [] zE D2 (ca + 1) (sa + 6)) : Zf (zfr g) (KL g) F g M_La_law mc ms 542 (lL i) [] zE D ca sa := by
  have k := fun D2 hd => zf_widen (k D2 hd) (ca := ca) (sa := sa) ⟨by omega, by omega⟩
  refine f_aload_n d_La_law_542 rfl ?_
  refine f_aload_nS d_La_law_543 rfl ?_
  refine f_iload d_La_law_544 rfl ?_
  refine f_iconst d_La_law_546 (by decide) ?_
  refine f_iadd d_La_law_547 (by unfold R32; omega) ?_
  refine f_sld d_La_law_548 ⟨by omega, by omega⟩ ?_
  refine f_aload_nS d_La_law_549 rfl ?_
  refine f_iload d_La_law_550 rfl ?_
  refine f_iconst d_La_law_552 (by decide) ?_
  refine f_iadd d_La_law_553 (by unfold R32; omega) ?_
  refine f_sld d_La_law_554 ⟨by omega, by omega⟩ ?_
  refine f_callV (as := [vI (sx g (i + 1)), vI (sx g (i + 2))]) (st := []) (a := 0) mc_Ke_levelOf mv_Ke_levelOf l_La_83 zc_Ke rfl d_La_law_555 rfl rfl rfl zk_0 (zk_lt zk_0 (by decide)) ⟨by omega, by omega⟩ (pr_levelOf h) (fun r E' D1 hr => ?_)
  obtain ⟨rfl, v, rfl, hr⟩ := hr
  refine f_aload_n d_La_law_558 rfl ?_
  refine f_aload_nS d_La_law_559 rfl ?_
  refine f_iload d_La_law_560 rfl ?_
  refine f_iconst d_La_law_562 (by decide) ?_
  refine f_iadd d_La_law_563 (by unfold R32; omega) ?_
  refine f_sld d_La_law_564 ⟨by omega, by omega⟩ ?_
  refine f_aload_nS d_La_law_565 rfl ?_
  refine f_iload d_La_law_566 rfl ?_
  refine f_iconst d_La_law_568 (by decide) ?_
  refine f_iadd d_La_law_569 (by unfold R32; omega) ?_
  refine f_sld d_La_law_570 ⟨by omega, by omega⟩ ?_
  refine f_callV (as := [vI (sx g (i + 1)), vI (sx g (i + 2))]) (st := [vI v]) (a := 708) mc_Mo_levelOf mv_Mo_levelOf l_La_86 zc_Mo rfl d_La_law_571 rfl rfl rfl zk_708 (zk_lt zk_708 (by decide)) ⟨by omega, by omega⟩ hr (fun r E' D2 hr => ?_)
  obtain ⟨rfl, v2, rfl, e, hI⟩ := hr
  subst e
  exact f_icmp_eq (tgt := 733) d_La_law_574 (by decide) (fun _ => k D2 hI) (fun q => absurd rfl q)
theorem law_13 (h : INV D) (hi : 0 ≤ i ∧ i + 5 ≤ gL g) (hL : gL g ≤ 2560) (hcs : ca + 1 ≤ mc ∧ sa + 6 ≤ ms) (k : ∀ D2, INV D2 → Zf (zfr g) (KL g) F g M_La_law mc ms 733 (lL i) [] zE D2 (ca + 1) (sa + 6)) : Zf (zfr g) (KL g) F g M_La_law mc ms 579 (lL i) [] zE D ca sa := by
  have k := fun D2 hd => zf_widen (k D2 hd) (ca := ca) (sa := sa) ⟨by omega, by omega⟩
  refine f_aload_n d_La_law_579 rfl ?_
  refine f_callV (as := []) (st := []) (a := 0) mc_Ke_near mv_Ke_near l_La_87 zc_Ke rfl d_La_law_580 rfl rfl rfl zk_0 (zk_lt zk_0 (by decide)) ⟨by omega, by omega⟩ (pr_near h) (fun r E' D1 hr => ?_)
  obtain ⟨rfl, v, rfl, hr⟩ := hr
  refine f_dstore d_La_law_583 (by decide) (L' := [vS, vR 0, vR 708, vR 734, vI i, vD v, vU, vU, vU]) rfl ?_
  refine f_aload_n d_La_law_585 rfl ?_
  refine f_callV (as := []) (st := []) (a := 708) mc_Mo_near mv_Mo_near l_La_91 zc_Mo rfl d_La_law_586 rfl rfl rfl zk_708 (zk_lt zk_708 (by decide)) ⟨by omega, by omega⟩ hr (fun r E' D2 hr => ?_)
  obtain ⟨rfl, v2, rfl, e, hI⟩ := hr
  subst e
  refine f_dstore d_La_law_589 (by decide) (L' := [vS, vR 0, vR 708, vR 734, vI i, vD v2, vU, vD v2, vU]) rfl ?_
  have fin : Zf (zfr g) (KL g) F g M_La_law mc ms 617 [vS, vR 0, vR 708, vR 734, vI i, vD v2, vU, vD v2, vU] [] zE D2 ca sa := f_goto (tgt := 733) d_La_law_617 (by decide) (f_mask [false, false, false, false, false, true, true, true, true] rfl (k D2 hI))
  refine f_dload d_La_law_591 rfl ?_
  refine f_dload d_La_law_593 rfl ?_
  refine f_dcmp d_La_law_595 ?_
  refine f_if_eq (tgt := 617) d_La_law_596 (by decide) (fun _ => fin) (fun q => ?_)
  refine f_dload d_La_law_599 rfl ?_
  refine f_dload d_La_law_601 rfl ?_
  refine f_dcmp d_La_law_603 ?_
  refine f_if_eq (tgt := 615) d_La_law_604 (by decide) (fun q2 => absurd q2 q) (fun _ => ?_)
  refine f_dload d_La_law_607 rfl ?_
  refine f_dload d_La_law_609 rfl ?_
  refine f_dcmp d_La_law_611 ?_
  exact f_if_ne (tgt := 617) d_La_law_612 (by decide) (fun _ => fin) (fun q2 => absurd q2 q)
theorem law_14 (h : INV D) (hi : 0 ≤ i ∧ i + 5 ≤ gL g) (hL : gL g ≤ 2560) (hcs : ca + 1 ≤ mc ∧ sa + 6 ≤ ms) (k : ∀ D2, INV D2 → Zf (zfr g) (KL g) F g M_La_law mc ms 733 (lL i) [] zE D2 (ca + 1) (sa + 6)) : Zf (zfr g) (KL g) F g M_La_law mc ms 620 (lL i) [] zE D ca sa := by
  have k := fun D2 hd => zf_widen (k D2 hd) (ca := ca) (sa := sa) ⟨by omega, by omega⟩
  refine f_aload_n d_La_law_620 rfl ?_
  refine f_aload_nS d_La_law_621 rfl ?_
  refine f_iload d_La_law_622 rfl ?_
  refine f_iconst d_La_law_624 (by decide) ?_
  refine f_iadd d_La_law_625 (by unfold R32; omega) ?_
  refine f_sld d_La_law_626 ⟨by omega, by omega⟩ ?_
  refine f_i2d d_La_law_627 ?_
  refine f_ldc2d (x := 4593671619917905920) l_La_92 d_La_law_628 (by decide) ?_
  refine f_dmul d_La_law_631 (eighth_nn sx_32) ?_
  refine f_callV (as := [vD (zdmul (zi2d (sx g (i + 1))) 4593671619917905920)]) (st := []) (a := 0) mc_Ke_speed mv_Ke_speed l_La_94 zc_Ke rfl d_La_law_632 rfl rfl rfl zk_0 (zk_lt zk_0 (by decide)) ⟨by omega, by omega⟩ (pr_speed h) (fun r E' D1 hr => ?_)
  obtain ⟨rfl, v, rfl, hr⟩ := hr
  refine f_dstore d_La_law_635 (by decide) (L' := [vS, vR 0, vR 708, vR 734, vI i, vD v, vU, vU, vU]) rfl ?_
  refine f_aload_n d_La_law_637 rfl ?_
  refine f_aload_nS d_La_law_638 rfl ?_
  refine f_iload d_La_law_639 rfl ?_
  refine f_iconst d_La_law_641 (by decide) ?_
  refine f_iadd d_La_law_642 (by unfold R32; omega) ?_
  refine f_sld d_La_law_643 ⟨by omega, by omega⟩ ?_
  refine f_i2d d_La_law_644 ?_
  refine f_ldc2d (x := 4593671619917905920) l_La_92 d_La_law_645 (by decide) ?_
  refine f_dmul d_La_law_648 (eighth_nn sx_32) ?_
  refine f_callV (as := [vD (zdmul (zi2d (sx g (i + 1))) 4593671619917905920)]) (st := []) (a := 708) mc_Mo_speed mv_Mo_speed l_La_98 zc_Mo rfl d_La_law_649 rfl rfl rfl zk_708 (zk_lt zk_708 (by decide)) ⟨by omega, by omega⟩ hr (fun r E' D2 hr => ?_)
  obtain ⟨rfl, v2, rfl, e, hI⟩ := hr
  subst e
  refine f_dstore d_La_law_652 (by decide) (L' := [vS, vR 0, vR 708, vR 734, vI i, vD v2, vU, vD v2, vU]) rfl ?_
  have fin : Zf (zfr g) (KL g) F g M_La_law mc ms 680 [vS, vR 0, vR 708, vR 734, vI i, vD v2, vU, vD v2, vU] [] zE D2 ca sa := f_goto (tgt := 733) d_La_law_680 (by decide) (f_mask [false, false, false, false, false, true, true, true, true] rfl (k D2 hI))
  refine f_dload d_La_law_654 rfl ?_
  refine f_dload d_La_law_656 rfl ?_
  refine f_dcmp d_La_law_658 ?_
  refine f_if_eq (tgt := 680) d_La_law_659 (by decide) (fun _ => fin) (fun q => ?_)
  refine f_dload d_La_law_662 rfl ?_
  refine f_dload d_La_law_664 rfl ?_
  refine f_dcmp d_La_law_666 ?_
  refine f_if_eq (tgt := 678) d_La_law_667 (by decide) (fun q2 => absurd q2 q) (fun _ => ?_)
  refine f_dload d_La_law_670 rfl ?_
  refine f_dload d_La_law_672 rfl ?_
  refine f_dcmp d_La_law_674 ?_
  exact f_if_ne (tgt := 680) d_La_law_675 (by decide) (fun _ => fin) (fun q2 => absurd q2 q)
theorem law_15 (h : INV D) (hi : 0 ≤ i ∧ i + 5 ≤ gL g) (hL : gL g ≤ 2560) (hcs : ca + 1 ≤ mc ∧ sa + 6 ≤ ms) (k : ∀ D2, INV D2 → Zf (zfr g) (KL g) F g M_La_law mc ms 733 (lL i) [] zE D2 (ca + 1) (sa + 6)) : Zf (zfr g) (KL g) F g M_La_law mc ms 683 (lL i) [] zE D ca sa := by
  have k := fun D2 hd => zf_widen (k D2 hd) (ca := ca) (sa := sa) ⟨by omega, by omega⟩
  refine f_aload_n d_La_law_683 rfl ?_
  refine f_aload_nS d_La_law_684 rfl ?_
  refine f_iload d_La_law_685 rfl ?_
  refine f_iconst d_La_law_687 (by decide) ?_
  refine f_iadd d_La_law_688 (by unfold R32; omega) ?_
  refine f_sld d_La_law_689 ⟨by omega, by omega⟩ ?_
  refine f_aload_nS d_La_law_690 rfl ?_
  refine f_iload d_La_law_691 rfl ?_
  refine f_iconst d_La_law_693 (by decide) ?_
  refine f_iadd d_La_law_694 (by unfold R32; omega) ?_
  refine f_sld d_La_law_695 ⟨by omega, by omega⟩ ?_
  refine f_callV (as := [vI (sx g (i + 1)), vI (sx g (i + 2))]) (st := []) (a := 0) mc_Ke_working mv_Ke_working l_La_99 zc_Ke rfl d_La_law_696 rfl rfl rfl zk_0 (zk_lt zk_0 (by decide)) ⟨by omega, by omega⟩ (pr_working h) (fun r E' D1 hr => ?_)
  obtain ⟨rfl, v, rfl, hr⟩ := hr
  refine f_aload_n d_La_law_699 rfl ?_
  refine f_aload_nS d_La_law_700 rfl ?_
  refine f_iload d_La_law_701 rfl ?_
  refine f_iconst d_La_law_703 (by decide) ?_
  refine f_iadd d_La_law_704 (by unfold R32; omega) ?_
  refine f_sld d_La_law_705 ⟨by omega, by omega⟩ ?_
  refine f_aload_nS d_La_law_706 rfl ?_
  refine f_iload d_La_law_707 rfl ?_
  refine f_iconst d_La_law_709 (by decide) ?_
  refine f_iadd d_La_law_710 (by unfold R32; omega) ?_
  refine f_sld d_La_law_711 ⟨by omega, by omega⟩ ?_
  refine f_callV (as := [vI (sx g (i + 1)), vI (sx g (i + 2))]) (st := [vI v]) (a := 708) mc_Mo_working mv_Mo_working l_La_102 zc_Mo rfl d_La_law_712 rfl rfl rfl zk_708 (zk_lt zk_708 (by decide)) ⟨by omega, by omega⟩ hr (fun r E' D2 hr => ?_)
  obtain ⟨rfl, v2, rfl, e, hI⟩ := hr
  subst e
  exact f_icmp_eq (tgt := 733) d_La_law_715 (by decide) (fun _ => k D2 hI) (fun q => absurd rfl q)
theorem law_16 (h : INV D) (hi : 0 ≤ i ∧ i + 5 ≤ gL g) (hL : gL g ≤ 2560) (hcs : ca + 1 ≤ mc ∧ sa + 6 ≤ ms) (k : ∀ D2, INV D2 → Zf (zfr g) (KL g) F g M_La_law mc ms 733 (lL i) [] zE D2 (ca + 1) (sa + 6)) : Zf (zfr g) (KL g) F g M_La_law mc ms 720 (lL i) [] zE D ca sa := by
  have k := fun D2 hd => zf_widen (k D2 hd) (ca := ca) (sa := sa) ⟨by omega, by omega⟩
  refine f_aload_n d_La_law_720 rfl ?_
  refine f_callV (as := []) (st := []) (a := 0) mc_Ke_check mv_Ke_check l_La_103 zc_Ke rfl d_La_law_721 rfl rfl rfl zk_0 (zk_lt zk_0 (by decide)) ⟨by omega, by omega⟩ (pr_check h) (fun r E' D1 hr => ?_)
  obtain ⟨rfl, v, rfl, hr⟩ := hr
  refine f_aload_n d_La_law_724 rfl ?_
  refine f_callV (as := []) (st := [vI v]) (a := 708) mc_Mo_check mv_Mo_check l_La_106 zc_Mo rfl d_La_law_725 rfl rfl rfl zk_708 (zk_lt zk_708 (by decide)) ⟨by omega, by omega⟩ hr (fun r E' D2 hr => ?_)
  obtain ⟨rfl, v2, rfl, e, hI⟩ := hr
  subst e
  exact f_icmp_eq (tgt := 733) d_La_law_728 (by decide) (fun _ => k D2 hI) (fun q => absurd rfl q)
theorem stepT_734 {a b c y : Int} : stepT (zw D 734 0 y) a b c = stepT D a b c := by
  unfold stepT
  rw [show zw D 734 0 y 9 = D 9 from zw_off (by decide), show zw D 734 0 y 200 = D 200 from zw_off (by decide)]
theorem stepV_734 {a b c y : Int} : stepV (zw D 734 0 y) a b c = stepV D a b c := by
  unfold stepV
  rw [show zw D 734 0 y 10 = D 10 from zw_off (by decide), show zw D 734 0 y 11 = D 11 from zw_off (by decide), show zw D 734 0 y 201 = D 201 from zw_off (by decide), show zw D 734 0 y 202 = D 202 from zw_off (by decide)]
theorem stepT_3 {a b c : Int} : stepT D a b c = 0 ∨ stepT D a b c = 1 ∨ stepT D a b c = 2 := by
  unfold stepT
  split
  · split
    · exact Or.inl rfl
    · exact Or.inr (Or.inl rfl)
  · exact Or.inr (Or.inr rfl)
theorem zcmp_self {y : Int} : zcmp y y = 0 := by unfold zcmp; rw [if_neg (Int.lt_irrefl y), if_pos rfl]
theorem hy_split : ((mY M_La_split).cls ≠ "java/lang/invoke/MethodHandle" ∧ (mY M_La_split).cls ≠ "java/lang/invoke/VarHandle") ∧ (parseMethodDescriptor (mY M_La_split).desc).map (fun d => d.parameters.length) = some 2 := by decide +kernel
theorem hy_step : ((mY M_La_step).cls ≠ "java/lang/invoke/MethodHandle" ∧ (mY M_La_step).cls ≠ "java/lang/invoke/VarHandle") ∧ (parseMethodDescriptor (mY M_La_step).desc).map (fun d => d.parameters.length) = some 5 := by decide +kernel
theorem st_split : Cond.static (mY M_La_split) ∈ zT := zT_mk 1200 (by decide +kernel) (by decide +kernel)
theorem st_step : Cond.static (mY M_La_step) ∈ zT := zT_mk 1251 (by decide +kernel) (by decide +kernel)
theorem in_La : Cond.initialized "SpeedKernelLaw" ∈ zT := zT_mk 66 (by decide +kernel) (by decide +kernel)
theorem law_7b {y t : Int} (h : INV D) (h0 : D 708 0 = t) (ht : t = 0 → D 734 0 = y) (hcs : ca + 1 ≤ mc ∧ sa + 6 ≤ ms) (k : ∀ D2, INV D2 → Zf (zfr g) (KL g) F g M_La_law mc ms 733 (lL i) [] zE D2 (ca + 1) (sa + 6)) : Zf (zfr g) (KL g) F g M_La_law mc ms 308 [vS, vR 0, vR 708, vR 734, vI i, vI t, vI y, vU, vU] [] zE D (ca + 1) (sa + 6) := by
  refine f_aload_n d_La_law_308 rfl ?_
  refine f_callV (as := []) (st := []) (a := 708) mc_Mo_thrown mv_Mo_thrown l_La_62 zc_Mo rfl d_La_law_309 rfl rfl rfl zk_708 (zk_lt zk_708 (by decide)) ⟨by omega, by omega⟩ thrown_ok (fun r E' D1 hr => ?_)
  obtain ⟨rfl, v, rfl, ev, eD⟩ := hr
  rw [h0] at ev
  subst ev
  rw [eD]
  refine f_iload d_La_law_312 rfl ?_
  refine f_icmp_eq (tgt := 319) d_La_law_314 (by decide) (fun _ => ?_) (fun q => absurd rfl q)
  have fin : Zf (zfr g) (KL g) F g M_La_law mc ms 336 [vS, vR 0, vR 708, vR 734, vI i, vI v, vI y, vU, vU] [] zE D (ca + 1) (sa + 6) := f_goto (tgt := 733) d_La_law_336 (by decide) (f_mask [false, false, false, false, false, true, true, true, true] rfl (k D h))
  refine f_iload d_La_law_319 rfl ?_
  refine f_if_ne (tgt := 336) d_La_law_321 (by decide) (fun _ => fin) (fun q => ?_)
  refine f_aload_n d_La_law_324 rfl ?_
  refine f_iconst d_La_law_325 (by decide) ?_
  refine f_lald (n := 1) d_La_law_326 (show zk 734 = (2, 1, 0) by decide +kernel) (by decide +kernel) (by decide) ?_
  rw [ht q]
  refine f_iload d_La_law_327 rfl ?_
  refine f_i2l d_La_law_329 ?_
  refine f_lcmp d_La_law_330 ?_
  exact f_if_eq (tgt := 336) d_La_law_331 (by decide) (fun _ => fin) (fun q2 => absurd zcmp_self q2)
theorem law_8b {y t : Int} (h : INV D) (h0 : D 708 0 = t) (ht : t = 0 → D 734 0 = y) (hcs : ca + 1 ≤ mc ∧ sa + 6 ≤ ms) (k : ∀ D2, INV D2 → Zf (zfr g) (KL g) F g M_La_law mc ms 733 (lL i) [] zE D2 (ca + 1) (sa + 6)) : Zf (zfr g) (KL g) F g M_La_law mc ms 388 [vS, vR 0, vR 708, vR 734, vI i, vI t, vI y, vU, vU] [] zE D (ca + 1) (sa + 6) := by
  refine f_aload_n d_La_law_388 rfl ?_
  refine f_callV (as := []) (st := []) (a := 708) mc_Mo_thrown mv_Mo_thrown l_La_62 zc_Mo rfl d_La_law_389 rfl rfl rfl zk_708 (zk_lt zk_708 (by decide)) ⟨by omega, by omega⟩ thrown_ok (fun r E' D1 hr => ?_)
  obtain ⟨rfl, v, rfl, ev, eD⟩ := hr
  rw [h0] at ev
  subst ev
  rw [eD]
  refine f_iload d_La_law_392 rfl ?_
  refine f_icmp_eq (tgt := 399) d_La_law_394 (by decide) (fun _ => ?_) (fun q => absurd rfl q)
  have fin : Zf (zfr g) (KL g) F g M_La_law mc ms 416 [vS, vR 0, vR 708, vR 734, vI i, vI v, vI y, vU, vU] [] zE D (ca + 1) (sa + 6) := f_goto (tgt := 733) d_La_law_416 (by decide) (f_mask [false, false, false, false, false, true, true, true, true] rfl (k D h))
  refine f_iload d_La_law_399 rfl ?_
  refine f_if_ne (tgt := 416) d_La_law_401 (by decide) (fun _ => fin) (fun q => ?_)
  refine f_aload_n d_La_law_404 rfl ?_
  refine f_iconst d_La_law_405 (by decide) ?_
  refine f_lald (n := 1) d_La_law_406 (show zk 734 = (2, 1, 0) by decide +kernel) (by decide +kernel) (by decide) ?_
  rw [ht q]
  refine f_iload d_La_law_407 rfl ?_
  refine f_i2l d_La_law_409 ?_
  refine f_lcmp d_La_law_410 ?_
  exact f_if_eq (tgt := 416) d_La_law_411 (by decide) (fun _ => fin) (fun q2 => absurd zcmp_self q2)
theorem law_7 (h : INV D) (hi : 0 ≤ i ∧ i + 5 ≤ gL g) (hL : gL g ≤ 2560) (hcs : ca + 1 ≤ mc ∧ sa + 6 ≤ ms) (k : ∀ D2, INV D2 → Zf (zfr g) (KL g) F g M_La_law mc ms 733 (lL i) [] zE D2 (ca + 1) (sa + 6)) : Zf (zfr g) (KL g) F g M_La_law mc ms 295 (lL i) [] zE D ca sa := by
  refine f_aload_n d_La_law_295 rfl ?_
  refine f_aload_n d_La_law_296 rfl ?_
  by_cases z : D 9 0 = 0
  · refine f_callSW (as := [vR 0, vR 734]) (st := []) cw_split in_La st_split hy_split l_La_56 d_La_law_297 rfl rfl rfl hcs (la_split0 z) (fun r E' D1 hr => ?_)
    obtain ⟨rfl, v, rfl, rfl, rfl⟩ := hr
    refine f_istore d_La_law_300 (by decide) (L' := [vS, vR 0, vR 708, vR 734, vI i, vI 1, vU, vU, vU]) rfl ?_
    refine f_aload_n d_La_law_302 rfl ?_
    refine f_callV (as := []) (st := []) (a := 708) mc_Mo_split mv_Mo_split l_La_61 zc_Mo rfl d_La_law_303 rfl rfl rfl zk_708 (zk_lt zk_708 (by decide)) ⟨by omega, by omega⟩ (pr_split0 h z) (fun r E' D2 hr => ?_)
    obtain ⟨rfl, w, rfl, h0, hI⟩ := hr
    refine f_istore d_La_law_306 (by decide) (L' := [vS, vR 0, vR 708, vR 734, vI i, vI 1, vI w, vU, vU]) rfl ?_
    exact law_7b hI h0 (fun q => absurd q (by decide)) hcs k
  · refine f_callSW (as := [vR 0, vR 734]) (st := []) cw_split in_La st_split hy_split l_La_56 d_La_law_297 rfl rfl rfl hcs (la_split1 (ksplit1 z (pr_split2 h z) fun v D1 q => q.1)) (fun r E' D1 hr => ?_)
    obtain ⟨rfl, v, rfl, rfl, y, D3, hP, eD⟩ := hr
    refine f_istore d_La_law_300 (by decide) (L' := [vS, vR 0, vR 708, vR 734, vI i, vI 0, vU, vU, vU]) rfl ?_
    refine f_aload_n d_La_law_302 rfl ?_
    refine f_callV (as := []) (st := []) (a := 708) mc_Mo_split mv_Mo_split l_La_61 zc_Mo rfl d_La_law_303 rfl rfl rfl zk_708 (zk_lt zk_708 (by decide)) ⟨by omega, by omega⟩ (hP.2 D1 (fun c hc => by rw [eD, zw_off (by omega)])) (fun r E' D2 hr => ?_)
    obtain ⟨rfl, w, rfl, ew, h0, h7, hI⟩ := hr
    refine f_istore d_La_law_306 (by decide) (L' := [vS, vR 0, vR 708, vR 734, vI i, vI 0, vI w, vU, vU]) rfl ?_
    exact law_7b hI h0 (fun _ => by rw [h7, eD, zw_eq, ew]) hcs k
theorem law_8 (h : INV D) (hi : 0 ≤ i ∧ i + 5 ≤ gL g) (hL : gL g ≤ 2560) (hcs : ca + 1 ≤ mc ∧ sa + 6 ≤ ms) (k : ∀ D2, INV D2 → Zf (zfr g) (KL g) F g M_La_law mc ms 733 (lL i) [] zE D2 (ca + 1) (sa + 6)) : Zf (zfr g) (KL g) F g M_La_law mc ms 339 (lL i) [] zE D ca sa := by
  refine f_aload_n d_La_law_339 rfl ?_
  refine f_aload_nS d_La_law_340 rfl ?_
  refine f_iload d_La_law_341 rfl ?_
  refine f_iconst d_La_law_343 (by decide) ?_
  refine f_iadd d_La_law_344 (by unfold R32; omega) ?_
  refine f_sld d_La_law_345 ⟨by omega, by omega⟩ ?_
  refine f_aload_nS d_La_law_346 rfl ?_
  refine f_iload d_La_law_347 rfl ?_
  refine f_iconst d_La_law_349 (by decide) ?_
  refine f_iadd d_La_law_350 (by unfold R32; omega) ?_
  refine f_sld d_La_law_351 ⟨by omega, by omega⟩ ?_
  refine f_aload_nS d_La_law_352 rfl ?_
  refine f_iload d_La_law_353 rfl ?_
  refine f_iconst d_La_law_355 (by decide) ?_
  refine f_iadd d_La_law_356 (by unfold R32; omega) ?_
  refine f_sld d_La_law_357 ⟨by omega, by omega⟩ ?_
  refine f_aload_n d_La_law_358 rfl ?_
  rcases stepT_3 (D := D) (a := (sx g (i + 1))) (b := (sx g (i + 2))) (c := (sx g (i + 3))) with z | z | z
  · refine f_callSW (as := [vR 0, vI (sx g (i + 1)), vI (sx g (i + 2)), vI (sx g (i + 3)), vR 734]) (st := []) cw_step in_La st_step hy_step l_La_65 d_La_law_359 rfl rfl rfl hcs (la_step0 (kstep0 h z)) (fun r E' D1 hr => ?_)
    obtain ⟨rfl, v, rfl, rfl, y, D3, ⟨ey, e3⟩, eD⟩ := hr
    refine f_istore d_La_law_362 (by decide) (L' := [vS, vR 0, vR 708, vR 734, vI i, vI 0, vU, vU, vU]) rfl ?_
    refine f_aload_n d_La_law_364 rfl ?_
    refine f_aload_nS d_La_law_365 rfl ?_
    refine f_iload d_La_law_366 rfl ?_
    refine f_iconst d_La_law_368 (by decide) ?_
    refine f_iadd d_La_law_369 (by unfold R32; omega) ?_
    refine f_sld d_La_law_370 ⟨by omega, by omega⟩ ?_
    refine f_aload_nS d_La_law_371 rfl ?_
    refine f_iload d_La_law_372 rfl ?_
    refine f_iconst d_La_law_374 (by decide) ?_
    refine f_iadd d_La_law_375 (by unfold R32; omega) ?_
    refine f_sld d_La_law_376 ⟨by omega, by omega⟩ ?_
    refine f_aload_nS d_La_law_377 rfl ?_
    refine f_iload d_La_law_378 rfl ?_
    refine f_iconst d_La_law_380 (by decide) ?_
    refine f_iadd d_La_law_381 (by unfold R32; omega) ?_
    refine f_sld d_La_law_382 ⟨by omega, by omega⟩ ?_
    refine f_callV (as := [vI (sx g (i + 1)), vI (sx g (i + 2)), vI (sx g (i + 3))]) (st := []) (a := 708) mc_Mo_step mv_Mo_step l_La_68 zc_Mo rfl d_La_law_383 rfl rfl rfl zk_708 (zk_lt zk_708 (by decide)) ⟨by omega, by omega⟩ (mstep_ok2 (D := D1) (by rw [eD, e3]; exact h.w734)) (fun r E' D2 hr => ?_)
    obtain ⟨rfl, w, rfl, h0, hv, h7, hI⟩ := hr
    refine f_istore d_La_law_386 (by decide) (L' := [vS, vR 0, vR 708, vR 734, vI i, vI 0, vI w, vU, vU]) rfl ?_
    exact law_8b hI (by rw [h0, eD, stepT_734, e3, z]) (fun _ => by rw [h7, hv (by rw [eD, stepT_734, e3, z]), eD, zw_eq, stepV_734, e3, ey]) hcs k
  · refine f_callSW (as := [vR 0, vI (sx g (i + 1)), vI (sx g (i + 2)), vI (sx g (i + 3)), vR 734]) (st := []) cw_step in_La st_step hy_step l_La_65 d_La_law_359 rfl rfl rfl hcs (la_step1 z) (fun r E' D1 hr => ?_)
    obtain ⟨rfl, v, rfl, rfl, rfl⟩ := hr
    refine f_istore d_La_law_362 (by decide) (L' := [vS, vR 0, vR 708, vR 734, vI i, vI 1, vU, vU, vU]) rfl ?_
    refine f_aload_n d_La_law_364 rfl ?_
    refine f_aload_nS d_La_law_365 rfl ?_
    refine f_iload d_La_law_366 rfl ?_
    refine f_iconst d_La_law_368 (by decide) ?_
    refine f_iadd d_La_law_369 (by unfold R32; omega) ?_
    refine f_sld d_La_law_370 ⟨by omega, by omega⟩ ?_
    refine f_aload_nS d_La_law_371 rfl ?_
    refine f_iload d_La_law_372 rfl ?_
    refine f_iconst d_La_law_374 (by decide) ?_
    refine f_iadd d_La_law_375 (by unfold R32; omega) ?_
    refine f_sld d_La_law_376 ⟨by omega, by omega⟩ ?_
    refine f_aload_nS d_La_law_377 rfl ?_
    refine f_iload d_La_law_378 rfl ?_
    refine f_iconst d_La_law_380 (by decide) ?_
    refine f_iadd d_La_law_381 (by unfold R32; omega) ?_
    refine f_sld d_La_law_382 ⟨by omega, by omega⟩ ?_
    refine f_callV (as := [vI (sx g (i + 1)), vI (sx g (i + 2)), vI (sx g (i + 3))]) (st := []) (a := 708) mc_Mo_step mv_Mo_step l_La_68 zc_Mo rfl d_La_law_383 rfl rfl rfl zk_708 (zk_lt zk_708 (by decide)) ⟨by omega, by omega⟩ (mstep_ok2 h) (fun r E' D2 hr => ?_)
    obtain ⟨rfl, w, rfl, h0, hv, h7, hI⟩ := hr
    refine f_istore d_La_law_386 (by decide) (L' := [vS, vR 0, vR 708, vR 734, vI i, vI 1, vI w, vU, vU]) rfl ?_
    exact law_8b hI (by rw [h0, z]) (fun q => absurd q (by decide)) hcs k
  · refine f_callSW (as := [vR 0, vI (sx g (i + 1)), vI (sx g (i + 2)), vI (sx g (i + 3)), vR 734]) (st := []) cw_step in_La st_step hy_step l_La_65 d_La_law_359 rfl rfl rfl hcs (la_step2 z) (fun r E' D1 hr => ?_)
    obtain ⟨rfl, v, rfl, rfl, rfl⟩ := hr
    refine f_istore d_La_law_362 (by decide) (L' := [vS, vR 0, vR 708, vR 734, vI i, vI 2, vU, vU, vU]) rfl ?_
    refine f_aload_n d_La_law_364 rfl ?_
    refine f_aload_nS d_La_law_365 rfl ?_
    refine f_iload d_La_law_366 rfl ?_
    refine f_iconst d_La_law_368 (by decide) ?_
    refine f_iadd d_La_law_369 (by unfold R32; omega) ?_
    refine f_sld d_La_law_370 ⟨by omega, by omega⟩ ?_
    refine f_aload_nS d_La_law_371 rfl ?_
    refine f_iload d_La_law_372 rfl ?_
    refine f_iconst d_La_law_374 (by decide) ?_
    refine f_iadd d_La_law_375 (by unfold R32; omega) ?_
    refine f_sld d_La_law_376 ⟨by omega, by omega⟩ ?_
    refine f_aload_nS d_La_law_377 rfl ?_
    refine f_iload d_La_law_378 rfl ?_
    refine f_iconst d_La_law_380 (by decide) ?_
    refine f_iadd d_La_law_381 (by unfold R32; omega) ?_
    refine f_sld d_La_law_382 ⟨by omega, by omega⟩ ?_
    refine f_callV (as := [vI (sx g (i + 1)), vI (sx g (i + 2)), vI (sx g (i + 3))]) (st := []) (a := 708) mc_Mo_step mv_Mo_step l_La_68 zc_Mo rfl d_La_law_383 rfl rfl rfl zk_708 (zk_lt zk_708 (by decide)) ⟨by omega, by omega⟩ (mstep_ok2 h) (fun r E' D2 hr => ?_)
    obtain ⟨rfl, w, rfl, h0, hv, h7, hI⟩ := hr
    refine f_istore d_La_law_386 (by decide) (L' := [vS, vR 0, vR 708, vR 734, vI i, vI 2, vI w, vU, vU]) rfl ?_
    exact law_8b hI (by rw [h0, z]) (fun q => absurd q (by decide)) hcs k
end LAW
