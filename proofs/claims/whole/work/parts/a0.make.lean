/-! new cells: rules while the world grows -/
section MAKE
variable {g : GG} {M M' : MI} {mc ms mc' ms' : Nat} {Q Q' : Option VV → EE → DD → Prop} {pc : Nat} {L st : List VV} {E : EE} {D : DD} {ca sa : Nat}
/-- one cell more -/
def eP (E : EE) : EE := (E.1, E.2.1 + 1, E.2.2)
theorem wld_push : wld g (eP E) D = wld g E D ++ [(gB g + E.2.1, cellE g E E.2.1 (D E.2.1))] := by
  unfold wld eP
  rw [List.range_succ, List.map_append]
  rfl
theorem hp_push {H H1 : Heap} (hH : Hp g E D H) (hE : E.2.2) (hn : va_at (gD g) zcl (gB g + E.2.1, cellE g E E.2.1 (D E.2.1)) H1) (z1 : H1.size = H.size + 1) (o1 : ∀ q, q < H.size → H1[q]? = H[q]?) (hz : ∀ j, D E.2.1 j = 0) : Hp g (eP E) D H1 := by
  have hs := hH.2.2.1 hE
  refine ⟨?_, ?_, fun _ => ?_, fun a ha j => ?_⟩
  · rw [wld_push]
    have hk : ∀ (k : Nat) (x : Nat × va_E), (wld g E D)[k]? = some x → H1[x.1]? = H[x.1]? := fun k x hx => o1 x.1 ((hH.1 k x hx).lt)
    refine (hH.1.kept hk).app (fun k x hx => ?_)
    have hz : k < 1 := (List.getElem?_eq_some_iff.mp hx).1
    rw [show k = 0 by omega] at hx
    cases hx
    exact hn
  · show gB g + (E.2.1 + 1) ≤ H1.size
    omega
  · show H1.size = gB g + (E.2.1 + 1)
    omega
  · rcases (show a < E.2.1 ∨ a = E.2.1 by have : a < E.2.1 + 1 := ha; omega) with y | y
    · exact hH.2.2.2 a y j
    · subst y
      rw [hz j]
      split
      · show R64 0; unfold R64; omega
      · show R32 0; unfold R32; omega
/-- a fresh object's fields -/
def zdv (ci : Nat) (T : u_T) (N : Nat) : Prop := ∀ j, j < N → ∃ ty, parseFieldDescriptor (T j).2.2.1 = some ty ∧ defaultValue ty = (if (zft ci j).1 = 2 then Value.null else .int 0)
theorem q_new {ci N index : Nat} {C : String} {T : u_T} (hc : ZC ci C T N) (hv : zdv ci T N) (hcl : Cond.classLink (mY M).cls index C ∈ zT) (hinst : Cond.instantiable C N ∈ zT) (hini : Cond.initialized C ∈ zT) (d : decode (mC M) pc = .ok (.new index, 3)) {t : Nat} (ha : zk E.2.1 = (0, ci, t)) (hE : E.2.2) (hf : ∀ k, E.1 E.2.1 k = false) (hz : ∀ j, D E.2.1 j = 0) (hcs : ca + 1 ≤ mc ∧ sa + N ≤ ms)
    (kk : Zg g M mc ms Q (pc + 3) L (vR E.2.1 :: st) (eP E) D (ca + 1) (sa + N)) : Zg g M mc ms Q pc L st E D ca sa := by
  intro p l e R s m args below meth c X hR H locs ls hH hS hl' hL hs
  obtain ⟨ty, hty⟩ := hc.2.2.2.1
  have hts := X.2.2.2.2.2.1
  have hK := X.2.2.2.2.2.2.2.2.1
  have hKn := hK.1 ci _ hc.1
  have hsz := hH.2.2.1 hE
  refine W.newcK X.1 X.2.1 X.2.2.2.2.1 (hts _ hcl) (hts _ hinst) (hts _ hini) rfl d (by omega) (by omega) hKn.2.1 hsz fun H1 kC hkC e1 z1 o1 => ?_
  refine kk p l e R s m args below meth c X hR H1 locs ls (hp_push hH hE ?_ (by rw [z1, hsz]) (fun q hq => o1 q (by omega)) hz) ⟨Nat.le_trans hS.1 (by omega), fun x h1 h2 => (o1 x (by have := hS.1; omega)).trans (hS.2.1 x h1 h2), hS.2.2⟩ hl' hL (okc (v := vR _) trivial hs)
  have ec := cell_O (g := g) (E := E) (row := D E.2.1) ha
  rw [ec]
  refine ⟨_, hc.1, (u_born ty hts hc.2.2.1 hKn hkC e1 hty).to fun j hj => ?_⟩
  have hj' : j < znf ci := by rw [hc.2.1]; exact hj
  unfold vp_V
  simp only [List.getD_eq_getElem?_getD, List.getElem?_map, List.getElem?_range hj', Option.map_some, Option.getD_some]
  obtain ⟨ty', h1, h2⟩ := hv j hj
  have e3 : ty j = ty' := Option.some.inj ((hty j hj).symm.trans h1)
  rw [e3, h2]
  by_cases h : (zft ci j).1 = 2
  · obtain ⟨off, h3⟩ : ∃ off, zft ci j = (2, off) := ⟨(zft ci j).2, by rw [← h]⟩
    rw [if_pos h]
    unfold fval
    rw [h3]
    simp only
    rw [hf j, if_neg (by decide)]
  · rw [if_neg h, fval_I h, hz]
    rfl
end MAKE
