/-! rules: locals, branches -/
def lassoc (g : GG) (L : List VV) : List (Nat × Value) := (List.range L.length).filterMap fun j => (L[j]?).bind fun w => if w.1 = 5 then none else some (j, val g w)
theorem lassoc_mem {g : GG} {L : List VV} {q : Nat × Value} : q ∈ lassoc g L ↔ ∃ w, L[q.1]? = some w ∧ w.1 ≠ 5 ∧ q.2 = val g w := by
  unfold lassoc
  rw [List.mem_filterMap]
  constructor
  · rintro ⟨j, -, h⟩
    cases hw : L[j]? with
    | none => rw [hw] at h; cases h
    | some w =>
      rw [hw, Option.bind_some] at h
      split at h
      · cases h
      · rename_i hn
        cases h
        exact ⟨w, hw, hn, rfl⟩
  · rintro ⟨w, h1, h2, h3⟩
    refine ⟨q.1, List.mem_range.mpr (List.getElem?_eq_some_iff.mp h1).1, ?_⟩
    rw [h1, Option.bind_some, if_neg h2, ← h3]
theorem lrel_has {g : GG} {nL : Nat} {L : List VV} {ls : Array Slot} (h : lrel g nL L ls) : lv_has ls nL (lassoc g L) := by
  refine ⟨h.1, h.2.1, fun q hq => ?_⟩
  obtain ⟨w, h1, h2, h3⟩ := lassoc_mem.mp hq
  rw [h3]
  exact h.2.2 _ _ h1 h2
theorem lkill_get {L : List VV} {i j : Nat} {w : VV} (h : (lkill L i)[j]? = some w) (hw : w.1 ≠ 5) : L[j]? = some w ∧ (j + 1 = i → zcat w ≠ 2) := by
  unfold lkill at h
  cases i with
  | zero => exact ⟨h, fun q => by omega⟩
  | succ k =>
    simp only at h
    have key : ∀ {x : Nat × Int}, (L.set k vU)[j]? = some w → L[j]? = some w ∧ (j + 1 = k + 1 → zcat w ≠ 2) := by
      intro x hs
      by_cases hjk : k = j
      · subst hjk
        rw [List.getElem?_set] at hs
        split at hs
        · split at hs
          · cases hs; exact absurd rfl hw
          · cases hs
        · exact absurd rfl ‹_›
      · rw [List.getElem?_set_ne hjk] at hs
        exact ⟨hs, fun q => absurd (Nat.succ.inj q).symm hjk⟩
    split at h
    · exact key (x := (0, 0)) h
    · exact key (x := (0, 0)) h
    · rename_i h1 h2
      refine ⟨h, fun q hc => ?_⟩
      have : j = k := Nat.succ.inj q
      subst this
      obtain ⟨t, x⟩ := w
      unfold zcat at hc
      split at hc
      · rename_i e; simp only at e; subst e; exact h1 x h
      · rename_i e; simp only at e; subst e; exact h2 x h
      · cases hc
theorem lrel_st1 {g : GG} {nL : Nat} {L : List VV} {ls : Array Slot} {i : Nat} {v : VV} (h : lrel g nL L ls) (hi : i < nL) (hc : zcat v = 1) :
    ∃ ls', storeLocals ls i (val g v) = some ls' ∧ lrel g nL (lst1 L i v) ls' := by
  obtain ⟨ls', e, h'⟩ := lv_store1 (v := val g v) (lrel_has h) hi (by rw [zcat_val]; exact hc)
  refine ⟨ls', e, h'.1, h'.2.1, fun j w hj hw => ?_⟩
  unfold lst1 at hj
  rw [List.getElem?_set] at hj
  split at hj
  · rename_i hij
    subst hij
    split at hj
    · cases hj
      exact h'.2.2 (i, val g v) List.mem_cons_self
    · cases hj
  · rename_i hij
    obtain ⟨a1, a2⟩ := lkill_get hj hw
    refine h'.2.2 (j, val g w) (List.mem_cons_of_mem _ (List.mem_filter.mpr ⟨lassoc_mem.mpr ⟨w, a1, hw, rfl⟩, ?_⟩))
    have n1 : ¬ j = i := fun q => hij q.symm
    simp only [Bool.and_eq_true, Bool.not_eq_true', beq_eq_false_iff_ne, Bool.and_eq_false_iff, zcat_val]
    refine ⟨n1, ?_⟩
    by_cases q : j + 1 = i
    · exact Or.inr (a2 q)
    · exact Or.inl q
theorem lrel_st2 {g : GG} {nL : Nat} {L : List VV} {ls : Array Slot} {i : Nat} {v : VV} (h : lrel g nL L ls) (hi : i + 1 < nL) (hc : zcat v = 2) :
    ∃ ls', storeLocals ls i (val g v) = some ls' ∧ lrel g nL (lst2 L i v) ls' := by
  obtain ⟨ls', e, h'⟩ := lv_store2 (v := val g v) (lrel_has h) hi (by rw [zcat_val]; exact hc)
  refine ⟨ls', e, h'.1, h'.2.1, fun j w hj hw => ?_⟩
  unfold lst2 at hj
  rw [List.getElem?_set] at hj
  split at hj
  · split at hj
    · cases hj; exact absurd rfl hw
    · cases hj
  · rename_i hij2
    rw [List.getElem?_set] at hj
    split at hj
    · rename_i hij
      subst hij
      split at hj
      · cases hj
        exact h'.2.2 (i, val g v) List.mem_cons_self
      · cases hj
    · rename_i hij
      obtain ⟨a1, a2⟩ := lkill_get hj hw
      refine h'.2.2 (j, val g w) (List.mem_cons_of_mem _ (List.mem_filter.mpr ⟨lassoc_mem.mpr ⟨w, a1, hw, rfl⟩, ?_⟩))
      have n1 : ¬ j = i := fun q => hij q.symm
      have n2 : ¬ j = i + 1 := fun q => hij2 q.symm
      simp only [Bool.and_eq_true, Bool.not_eq_true', beq_eq_false_iff_ne, Bool.and_eq_false_iff, zcat_val]
      refine ⟨n1, n2, ?_⟩
      by_cases q : j + 1 = i
      · exact Or.inr (a2 q)
      · exact Or.inl q
theorem ok_set {L : List VV} {i : Nat} {v : VV} (h : ∀ w ∈ L, okv w) (hv : okv v) : ∀ w ∈ L.set i v, okv w := by
  intro w hw
  rcases List.mem_or_eq_of_mem_set hw with q | q
  · exact h w q
  · rw [q]; exact hv
theorem ok_vU : okv vU := trivial
theorem ok_lkill {L : List VV} {i : Nat} (h : ∀ w ∈ L, okv w) : ∀ w ∈ lkill L i, okv w := by
  unfold lkill
  split
  · exact h
  · split
    · exact ok_set h ok_vU
    · exact ok_set h ok_vU
    · exact h
theorem ok_lst1 {L : List VV} {i : Nat} {v : VV} (h : ∀ w ∈ L, okv w) (hv : okv v) : ∀ w ∈ lst1 L i v, okv w := ok_set (ok_lkill h) hv
theorem ok_lst2 {L : List VV} {i : Nat} {v : VV} (h : ∀ w ∈ L, okv w) (hv : okv v) : ∀ w ∈ lst2 L i v, okv w := ok_set (ok_set (ok_lkill h) hv) ok_vU
section RL
variable {g : GG} {M : MI} {mc ms : Nat} {Q : Option VV → EE → DD → Prop} {pc : Nat} {L L' st : List VV} {E : EE} {D : DD} {ca sa : Nat}
theorem q_forget (i : Nat) (k : Zg g M mc ms Q pc (L.set i vU) st E D ca sa) : Zg g M mc ms Q pc L st E D ca sa := by
  intro p l e R s m args below meth c C hR H locs ls hH hS hl hL hs
  refine k p l e R s m args below meth c C hR H locs ls hH hS ⟨hl.1, hl.2.1, fun j v hj hv => ?_⟩ (ok_set hL ok_vU) hs
  rw [List.getElem?_set] at hj
  split at hj
  · split at hj
    · cases hj; exact absurd rfl hv
    · cases hj
  · exact hl.2.2 j v hj hv
theorem q_L (h : L = L') (k : Zg g M mc ms Q pc L' st E D ca sa) : Zg g M mc ms Q pc L st E D ca sa := h ▸ k
theorem q_iload_n {n : Fin 4} {x : Int} (d : decode (mC M) pc = .ok (.iload_n n, 1)) (hi : L[(n : Nat)]? = some (vI x)) (k : Zg g M mc ms Q (pc + 1) L (vI x :: st) E D ca sa) : Zg g M mc ms Q pc L st E D ca sa := by
  intro p l e R s m args below meth c C hR H locs ls hH hS hl hL hs
  exact lv_iload_n C.1 C.2.1 d rfl (hl.2.2 _ _ hi (Nat.ne_of_beq_eq_false rfl)) (k p l e R s m args below meth c C hR H locs ls hH hS hl hL (okc (hL _ (List.mem_of_getElem? hi)) hs))
theorem q_iload {i : Nat} {x : Int} (d : decode (mC M) pc = .ok (.iload i, 2)) (hi : L[i]? = some (vI x)) (k : Zg g M mc ms Q (pc + 2) L (vI x :: st) E D ca sa) : Zg g M mc ms Q pc L st E D ca sa := by
  intro p l e R s m args below meth c C hR H locs ls hH hS hl hL hs
  exact lv_iload C.1 C.2.1 d (hl.2.2 _ _ hi (Nat.ne_of_beq_eq_false rfl)) (k p l e R s m args below meth c C hR H locs ls hH hS hl hL (okc (hL _ (List.mem_of_getElem? hi)) hs))
theorem q_lload_n {n : Fin 4} {x : Int} (d : decode (mC M) pc = .ok (.lload_n n, 1)) (hi : L[(n : Nat)]? = some (vL x)) (k : Zg g M mc ms Q (pc + 1) L (vL x :: st) E D ca sa) : Zg g M mc ms Q pc L st E D ca sa := by
  intro p l e R s m args below meth c C hR H locs ls hH hS hl hL hs
  exact lv_lload_n C.1 C.2.1 d rfl (hl.2.2 _ _ hi (Nat.ne_of_beq_eq_false rfl)) (k p l e R s m args below meth c C hR H locs ls hH hS hl hL (okc (hL _ (List.mem_of_getElem? hi)) hs))
theorem q_lload {i : Nat} {x : Int} (d : decode (mC M) pc = .ok (.lload i, 2)) (hi : L[i]? = some (vL x)) (k : Zg g M mc ms Q (pc + 2) L (vL x :: st) E D ca sa) : Zg g M mc ms Q pc L st E D ca sa := by
  intro p l e R s m args below meth c C hR H locs ls hH hS hl hL hs
  exact lv_lload C.1 C.2.1 d (hl.2.2 _ _ hi (Nat.ne_of_beq_eq_false rfl)) (k p l e R s m args below meth c C hR H locs ls hH hS hl hL (okc (hL _ (List.mem_of_getElem? hi)) hs))
theorem q_dload_n {n : Fin 4} {x : Int} (d : decode (mC M) pc = .ok (.dload_n n, 1)) (hi : L[(n : Nat)]? = some (vD x)) (k : Zg g M mc ms Q (pc + 1) L (vD x :: st) E D ca sa) : Zg g M mc ms Q pc L st E D ca sa := by
  intro p l e R s m args below meth c C hR H locs ls hH hS hl hL hs
  exact lv_dload_n C.1 C.2.1 d rfl (hl.2.2 _ _ hi (Nat.ne_of_beq_eq_false rfl)) (k p l e R s m args below meth c C hR H locs ls hH hS hl hL (okc (hL _ (List.mem_of_getElem? hi)) hs))
theorem q_dload {i : Nat} {x : Int} (d : decode (mC M) pc = .ok (.dload i, 2)) (hi : L[i]? = some (vD x)) (k : Zg g M mc ms Q (pc + 2) L (vD x :: st) E D ca sa) : Zg g M mc ms Q pc L st E D ca sa := by
  intro p l e R s m args below meth c C hR H locs ls hH hS hl hL hs
  exact lv_dload C.1 C.2.1 d (hl.2.2 _ _ hi (Nat.ne_of_beq_eq_false rfl)) (k p l e R s m args below meth c C hR H locs ls hH hS hl hL (okc (hL _ (List.mem_of_getElem? hi)) hs))
theorem q_aload_n {n : Fin 4} {a : Nat} (d : decode (mC M) pc = .ok (.aload_n n, 1)) (hi : L[(n : Nat)]? = some (vR a)) (k : Zg g M mc ms Q (pc + 1) L (vR a :: st) E D ca sa) : Zg g M mc ms Q pc L st E D ca sa := by
  intro p l e R s m args below meth c C hR H locs ls hH hS hl hL hs
  exact lv_aload_n C.1 C.2.1 d rfl (hl.2.2 _ _ hi (Nat.ne_of_beq_eq_false rfl)) (k p l e R s m args below meth c C hR H locs ls hH hS hl hL (okc (hL _ (List.mem_of_getElem? hi)) hs))
theorem q_aload {i : Nat} {a : Nat} (d : decode (mC M) pc = .ok (.aload i, 2)) (hi : L[i]? = some (vR a)) (k : Zg g M mc ms Q (pc + 2) L (vR a :: st) E D ca sa) : Zg g M mc ms Q pc L st E D ca sa := by
  intro p l e R s m args below meth c C hR H locs ls hH hS hl hL hs
  exact lv_aload C.1 C.2.1 d (hl.2.2 _ _ hi (Nat.ne_of_beq_eq_false rfl)) (k p l e R s m args below meth c C hR H locs ls hH hS hl hL (okc (hL _ (List.mem_of_getElem? hi)) hs))
theorem q_aload_nN {n : Fin 4} (d : decode (mC M) pc = .ok (.aload_n n, 1)) (hi : L[(n : Nat)]? = some vN) (k : Zg g M mc ms Q (pc + 1) L (vN :: st) E D ca sa) : Zg g M mc ms Q pc L st E D ca sa := by
  intro p l e R s m args below meth c C hR H locs ls hH hS hl hL hs
  exact lv_aload_nN C.1 C.2.1 d rfl (hl.2.2 _ _ hi (Nat.ne_of_beq_eq_false rfl)) (k p l e R s m args below meth c C hR H locs ls hH hS hl hL (okc (hL _ (List.mem_of_getElem? hi)) hs))
theorem q_aload_nS {n : Fin 4} (d : decode (mC M) pc = .ok (.aload_n n, 1)) (hi : L[(n : Nat)]? = some vS) (k : Zg g M mc ms Q (pc + 1) L (vS :: st) E D ca sa) : Zg g M mc ms Q pc L st E D ca sa := by
  intro p l e R s m args below meth c C hR H locs ls hH hS hl hL hs
  exact lv_aload_n C.1 C.2.1 d rfl (hl.2.2 _ _ hi (Nat.ne_of_beq_eq_false rfl)) (k p l e R s m args below meth c C hR H locs ls hH hS hl hL (okc (hL _ (List.mem_of_getElem? hi)) hs))
theorem zg_st1 {len i : Nat} {v : VV} (hc : zcat v = 1) (hn : i < mL M)
    (h : ∀ {p : Program} {l : Launch} {e : Env} {R : Room} {s : State} {m : MethodId} {args : Array Value} {below : List Frame} {meth : Method} {c : Code} {H : Heap} {locs : List Loc} {cells slots : Nat} {Q : State → Prop} {ls ls' : Array Slot} {rest : List Value},
      p.tables.exec = Jvm.exec → c.code = mC M → storeLocals ls i (val g v) = some ls' → W p l e R s m args below meth c H locs cells slots Q (F0 m (pc + len) ls' rest) → W p l e R s m args below meth c H locs cells slots Q (F0 m pc ls (val g v :: rest)))
    (k : Zg g M mc ms Q (pc + len) (lst1 L i v) st E D ca sa) : Zg g M mc ms Q pc L (v :: st) E D ca sa := by
  intro p l e R s m args below meth c C hR H locs ls hH hS hl hL hs
  obtain ⟨ls', e', h'⟩ := lrel_st1 hl hn hc
  exact h C.1 C.2.1 e' (k p l e R s m args below meth c C hR H locs ls' hH hS h' (ok_lst1 hL (ok1 hs).1) (ok1 hs).2)
theorem zg_st2 {len i : Nat} {v : VV} (hc : zcat v = 2) (hn : i + 1 < mL M)
    (h : ∀ {p : Program} {l : Launch} {e : Env} {R : Room} {s : State} {m : MethodId} {args : Array Value} {below : List Frame} {meth : Method} {c : Code} {H : Heap} {locs : List Loc} {cells slots : Nat} {Q : State → Prop} {ls ls' : Array Slot} {rest : List Value},
      p.tables.exec = Jvm.exec → c.code = mC M → storeLocals ls i (val g v) = some ls' → W p l e R s m args below meth c H locs cells slots Q (F0 m (pc + len) ls' rest) → W p l e R s m args below meth c H locs cells slots Q (F0 m pc ls (val g v :: rest)))
    (k : Zg g M mc ms Q (pc + len) (lst2 L i v) st E D ca sa) : Zg g M mc ms Q pc L (v :: st) E D ca sa := by
  intro p l e R s m args below meth c C hR H locs ls hH hS hl hL hs
  obtain ⟨ls', e', h'⟩ := lrel_st2 hl hn hc
  exact h C.1 C.2.1 e' (k p l e R s m args below meth c C hR H locs ls' hH hS h' (ok_lst2 hL (ok1 hs).1) (ok1 hs).2)
theorem q_istore_n {n : Fin 4} {x : Int} (d : decode (mC M) pc = .ok (.istore_n n, 1)) (hn : (n : Nat) < mL M) (hl : lst1 L n (vI x) = L') (k : Zg g M mc ms Q (pc + 1) L' st E D ca sa) : Zg g M mc ms Q pc L (vI x :: st) E D ca sa := by
  subst hl
  refine zg_st1 (len := 1) (i := n) rfl hn ?_ k
  intro p l e R s m args below meth c H locs cells slots Q ls ls' rest hexec hb e' kk T hT X
  obtain ⟨t, a, b⟩ := kk T hT X
  rw [val_I] at e'
  refine ⟨t, ?_, b⟩
  rw [val_I]
  jvm_step X.here [X.here.top, ↓top_set X.here.top, hexec, hb, d, e']
  exact a
theorem q_istore {i : Nat} {x : Int} (d : decode (mC M) pc = .ok (.istore i, 2)) (hn : i < mL M) (hl : lst1 L i (vI x) = L') (k : Zg g M mc ms Q (pc + 2) L' st E D ca sa) : Zg g M mc ms Q pc L (vI x :: st) E D ca sa := by
  subst hl
  refine zg_st1 (len := 2) (i := i) rfl hn ?_ k
  intro p l e R s m args below meth c H locs cells slots Q ls ls' rest hexec hb e' kk T hT X
  obtain ⟨t, a, b⟩ := kk T hT X
  rw [val_I] at e'
  refine ⟨t, ?_, b⟩
  rw [val_I]
  jvm_step X.here [X.here.top, ↓top_set X.here.top, hexec, hb, d, e']
  exact a
theorem q_lstore_n {n : Fin 4} {x : Int} (d : decode (mC M) pc = .ok (.lstore_n n, 1)) (hn : (n : Nat) + 1 < mL M) (hl : lst2 L n (vL x) = L') (k : Zg g M mc ms Q (pc + 1) L' st E D ca sa) : Zg g M mc ms Q pc L (vL x :: st) E D ca sa := by
  subst hl
  refine zg_st2 (len := 1) (i := n) rfl hn ?_ k
  intro p l e R s m args below meth c H locs cells slots Q ls ls' rest hexec hb e' kk T hT X
  obtain ⟨t, a, b⟩ := kk T hT X
  rw [val_L] at e'
  refine ⟨t, ?_, b⟩
  rw [val_L]
  jvm_step X.here [X.here.top, ↓top_set X.here.top, hexec, hb, d, e']
  exact a
theorem q_lstore {i : Nat} {x : Int} (d : decode (mC M) pc = .ok (.lstore i, 2)) (hn : i + 1 < mL M) (hl : lst2 L i (vL x) = L') (k : Zg g M mc ms Q (pc + 2) L' st E D ca sa) : Zg g M mc ms Q pc L (vL x :: st) E D ca sa := by
  subst hl
  refine zg_st2 (len := 2) (i := i) rfl hn ?_ k
  intro p l e R s m args below meth c H locs cells slots Q ls ls' rest hexec hb e' kk T hT X
  obtain ⟨t, a, b⟩ := kk T hT X
  rw [val_L] at e'
  refine ⟨t, ?_, b⟩
  rw [val_L]
  jvm_step X.here [X.here.top, ↓top_set X.here.top, hexec, hb, d, e']
  exact a
theorem q_dstore_n {n : Fin 4} {x : Int} (d : decode (mC M) pc = .ok (.dstore_n n, 1)) (hn : (n : Nat) + 1 < mL M) (hl : lst2 L n (vD x) = L') (k : Zg g M mc ms Q (pc + 1) L' st E D ca sa) : Zg g M mc ms Q pc L (vD x :: st) E D ca sa := by
  subst hl
  refine zg_st2 (len := 1) (i := n) rfl hn ?_ k
  intro p l e R s m args below meth c H locs cells slots Q ls ls' rest hexec hb e' kk T hT X
  obtain ⟨t, a, b⟩ := kk T hT X
  rw [val_D] at e'
  refine ⟨t, ?_, b⟩
  rw [val_D]
  jvm_step X.here [X.here.top, ↓top_set X.here.top, hexec, hb, d, Op.dstore_n.sem, e']
  exact a
theorem q_dstore {i : Nat} {x : Int} (d : decode (mC M) pc = .ok (.dstore i, 2)) (hn : i + 1 < mL M) (hl : lst2 L i (vD x) = L') (k : Zg g M mc ms Q (pc + 2) L' st E D ca sa) : Zg g M mc ms Q pc L (vD x :: st) E D ca sa := by
  subst hl
  refine zg_st2 (len := 2) (i := i) rfl hn ?_ k
  intro p l e R s m args below meth c H locs cells slots Q ls ls' rest hexec hb e' kk T hT X
  obtain ⟨t, a, b⟩ := kk T hT X
  rw [val_D] at e'
  refine ⟨t, ?_, b⟩
  rw [val_D]
  jvm_step X.here [X.here.top, ↓top_set X.here.top, hexec, hb, d, Op.dstore.sem, e']
  exact a
theorem q_astore_n {n : Fin 4} {a0 : Nat} (d : decode (mC M) pc = .ok (.astore_n n, 1)) (hn : (n : Nat) < mL M) (hl : lst1 L n (vR a0) = L') (k : Zg g M mc ms Q (pc + 1) L' st E D ca sa) : Zg g M mc ms Q pc L (vR a0 :: st) E D ca sa := by
  subst hl
  refine zg_st1 (len := 1) (i := n) rfl hn ?_ k
  intro p l e R s m args below meth c H locs cells slots Q ls ls' rest hexec hb e' kk T hT X
  obtain ⟨t, a, b⟩ := kk T hT X
  rw [val_R] at e'
  refine ⟨t, ?_, b⟩
  rw [val_R]
  jvm_step X.here [X.here.top, ↓top_set X.here.top, hexec, hb, d, e', Value.isRef]
  exact a
theorem q_astore {i : Nat} {a0 : Nat} (d : decode (mC M) pc = .ok (.astore i, 2)) (hn : i < mL M) (hl : lst1 L i (vR a0) = L') (k : Zg g M mc ms Q (pc + 2) L' st E D ca sa) : Zg g M mc ms Q pc L (vR a0 :: st) E D ca sa := by
  subst hl
  refine zg_st1 (len := 2) (i := i) rfl hn ?_ k
  intro p l e R s m args below meth c H locs cells slots Q ls ls' rest hexec hb e' kk T hT X
  obtain ⟨t, a, b⟩ := kk T hT X
  rw [val_R] at e'
  refine ⟨t, ?_, b⟩
  rw [val_R]
  jvm_step X.here [X.here.top, ↓top_set X.here.top, hexec, hb, d, e', Value.isRef]
  exact a
theorem q_astore_nN {n : Fin 4} (d : decode (mC M) pc = .ok (.astore_n n, 1)) (hn : (n : Nat) < mL M) (hl : lst1 L n vN = L') (k : Zg g M mc ms Q (pc + 1) L' st E D ca sa) : Zg g M mc ms Q pc L (vN :: st) E D ca sa := by
  subst hl
  refine zg_st1 (len := 1) (i := n) rfl hn ?_ k
  intro p l e R s m args below meth c H locs cells slots Q ls ls' rest hexec hb e' kk T hT X
  obtain ⟨t, a, b⟩ := kk T hT X
  rw [val_N] at e'
  refine ⟨t, ?_, b⟩
  rw [val_N]
  jvm_step X.here [X.here.top, ↓top_set X.here.top, hexec, hb, d, e', Value.isRef]
  exact a
theorem q_iinc {i : Nat} {n x : Int} (d : decode (mC M) pc = .ok (.iinc i n, 3)) (hi : L[i]? = some (vI x)) (hn : i < mL M) (o : R32 (x + n)) (hl : lst1 L i (vI (x + n)) = L') (k : Zg g M mc ms Q (pc + 3) L' st E D ca sa) : Zg g M mc ms Q pc L st E D ca sa := by
  subst hl
  intro p l e R s m args below meth c C hR H locs ls hH hS hl hL hs
  obtain ⟨ls', e', h'⟩ := lrel_st1 (v := vI (x + n)) hl hn rfl
  have hg := hl.2.2 _ _ hi (Nat.ne_of_beq_eq_false rfl)
  rw [val_I] at hg e'
  rw [Int32.ofInt_add] at e'
  intro T hT X
  obtain ⟨t, a, b⟩ := k p l e R s m args below meth c C hR H locs ls' hH hS h' (ok_lst1 (v := vI (x + n)) hL o) hs T hT X
  have hexec := C.1
  have hb := C.2.1
  refine ⟨t, ?_, b⟩
  jvm_step X.here [X.here.top, ↓top_set X.here.top, hexec, hb, d, hg, e']
  exact a
/-! branches -/
theorem zg_br {c0 : Prop} {tgt nx : Nat} {stt : List VV} (h : ∀ {p : Program} {l : Launch} {e : Env} {R : Room} {s : State} {m : MethodId} {args : Array Value} {below : List Frame} {meth : Method} {c : Code} {H : Heap} {locs : List Loc} {cells slots : Nat} {Q : State → Prop} {ls : Array Slot},
      p.tables.exec = Jvm.exec → c.code = mC M → (c0 → W p l e R s m args below meth c H locs cells slots Q (F0 m tgt ls (stt.map (val g)))) → (¬ c0 → W p l e R s m args below meth c H locs cells slots Q (F0 m nx ls (stt.map (val g)))) → W p l e R s m args below meth c H locs cells slots Q (F0 m pc ls (st.map (val g))))
    (hok : (∀ v ∈ st, okv v) → ∀ v ∈ stt, okv v) (kt : c0 → Zg g M mc ms Q tgt L stt E D ca sa) (kf : ¬ c0 → Zg g M mc ms Q nx L stt E D ca sa) : Zg g M mc ms Q pc L st E D ca sa := by
  intro p l e R s m args below meth c C hR H locs ls hH hS hl hL hs
  exact h C.1 C.2.1 (fun q => kt q p l e R s m args below meth c C hR H locs ls hH hS hl hL (hok hs)) (fun q => kf q p l e R s m args below meth c C hR H locs ls hH hS hl hL (hok hs))
theorem q_goto {off : Int} {tgt : Nat} (d : decode (mC M) pc = .ok (.goto off, 3)) (ht : (pc : Int) + off = (tgt : Int)) (k : Zg g M mc ms Q tgt L st E D ca sa) : Zg g M mc ms Q pc L st E D ca sa :=
  zg_pure (fun hx hb kk => lv_goto hx hb d ht kk) (fun h => h) k
theorem q_if_eq {off x : Int} {tgt : Nat} (d : decode (mC M) pc = .ok (.ifCond .eq off, 3)) (ht : (pc : Int) + off = (tgt : Int)) (kt : x = 0 → Zg g M mc ms Q tgt L st E D ca sa) (kf : ¬ x = 0 → Zg g M mc ms Q (pc + 3) L st E D ca sa) : Zg g M mc ms Q pc L (vI x :: st) E D ca sa :=
  zg_ok fun _ h _ => zg_br (c0 := x = 0) (fun hx hb a b => lv_if_eq hx hb d ht (fun q => a ((i32_eq (x := x) (y := 0) (ok1 h).1 (by omega)).mp q)) (fun q => b (fun z => q ((i32_eq (x := x) (y := 0) (ok1 h).1 (by omega)).mpr z)))) (fun h => (ok1 h).2) kt kf
theorem q_if_ne {off x : Int} {tgt : Nat} (d : decode (mC M) pc = .ok (.ifCond .ne off, 3)) (ht : (pc : Int) + off = (tgt : Int)) (kt : ¬ x = 0 → Zg g M mc ms Q tgt L st E D ca sa) (kf : x = 0 → Zg g M mc ms Q (pc + 3) L st E D ca sa) : Zg g M mc ms Q pc L (vI x :: st) E D ca sa :=
  zg_ok fun _ h _ => zg_br (c0 := ¬ x = 0) (fun hx hb a b => lv_if_ne hx hb d ht (fun q => a (fun z => q ((i32_eq (x := x) (y := 0) (ok1 h).1 (by omega)).mpr z))) (fun q => b (fun z => z ((i32_eq (x := x) (y := 0) (ok1 h).1 (by omega)).mp q)))) (fun h => (ok1 h).2) kt (fun q => kf (Classical.not_not.mp q))
theorem q_if_lt {off x : Int} {tgt : Nat} (d : decode (mC M) pc = .ok (.ifCond .lt off, 3)) (ht : (pc : Int) + off = (tgt : Int)) (kt : x < 0 → Zg g M mc ms Q tgt L st E D ca sa) (kf : ¬ x < 0 → Zg g M mc ms Q (pc + 3) L st E D ca sa) : Zg g M mc ms Q pc L (vI x :: st) E D ca sa :=
  zg_ok fun _ h _ => zg_br (c0 := x < 0) (fun hx hb a b => lv_if_lt hx hb d ht (fun q => a ((i32_lt (x := x) (y := 0) (ok1 h).1 (by omega)).mp q)) (fun q => b (fun z => q ((i32_lt (x := x) (y := 0) (ok1 h).1 (by omega)).mpr z)))) (fun h => (ok1 h).2) kt kf
theorem q_if_ge {off x : Int} {tgt : Nat} (d : decode (mC M) pc = .ok (.ifCond .ge off, 3)) (ht : (pc : Int) + off = (tgt : Int)) (kt : 0 ≤ x → Zg g M mc ms Q tgt L st E D ca sa) (kf : ¬ 0 ≤ x → Zg g M mc ms Q (pc + 3) L st E D ca sa) : Zg g M mc ms Q pc L (vI x :: st) E D ca sa :=
  zg_ok fun _ h _ => zg_br (c0 := 0 ≤ x) (fun hx hb a b => lv_if_ge hx hb d ht (fun q => a ((i32_le (x := 0) (y := x) (by omega) (ok1 h).1).mp q)) (fun q => b (fun z => q ((i32_le (x := 0) (y := x) (by omega) (ok1 h).1).mpr z)))) (fun h => (ok1 h).2) kt kf
theorem q_if_gt {off x : Int} {tgt : Nat} (d : decode (mC M) pc = .ok (.ifCond .gt off, 3)) (ht : (pc : Int) + off = (tgt : Int)) (kt : 0 < x → Zg g M mc ms Q tgt L st E D ca sa) (kf : ¬ 0 < x → Zg g M mc ms Q (pc + 3) L st E D ca sa) : Zg g M mc ms Q pc L (vI x :: st) E D ca sa :=
  zg_ok fun _ h _ => zg_br (c0 := 0 < x) (fun hx hb a b => lv_if_gt hx hb d ht (fun q => a ((i32_lt (x := 0) (y := x) (by omega) (ok1 h).1).mp q)) (fun q => b (fun z => q ((i32_lt (x := 0) (y := x) (by omega) (ok1 h).1).mpr z)))) (fun h => (ok1 h).2) kt kf
theorem q_if_le {off x : Int} {tgt : Nat} (d : decode (mC M) pc = .ok (.ifCond .le off, 3)) (ht : (pc : Int) + off = (tgt : Int)) (kt : x ≤ 0 → Zg g M mc ms Q tgt L st E D ca sa) (kf : ¬ x ≤ 0 → Zg g M mc ms Q (pc + 3) L st E D ca sa) : Zg g M mc ms Q pc L (vI x :: st) E D ca sa :=
  zg_ok fun _ h _ => zg_br (c0 := x ≤ 0) (fun hx hb a b => lv_if_le hx hb d ht (fun q => a ((i32_le (x := x) (y := 0) (ok1 h).1 (by omega)).mp q)) (fun q => b (fun z => q ((i32_le (x := x) (y := 0) (ok1 h).1 (by omega)).mpr z)))) (fun h => (ok1 h).2) kt kf
theorem q_icmp_eq {off x y : Int} {tgt : Nat} (d : decode (mC M) pc = .ok (.if_icmp .eq off, 3)) (ht : (pc : Int) + off = (tgt : Int)) (kt : x = y → Zg g M mc ms Q tgt L st E D ca sa) (kf : ¬ x = y → Zg g M mc ms Q (pc + 3) L st E D ca sa) : Zg g M mc ms Q pc L (vI y :: vI x :: st) E D ca sa :=
  zg_ok fun _ h _ => zg_br (c0 := x = y) (fun hx hb a b => lv_icmp_eq hx hb d ht (fun q => a ((i32_eq (x := x) (y := y) (ok2 h).2.1 (ok2 h).1).mp q)) (fun q => b (fun z => q ((i32_eq (x := x) (y := y) (ok2 h).2.1 (ok2 h).1).mpr z)))) (fun h => (ok2 h).2.2) kt kf
theorem q_icmp_ne {off x y : Int} {tgt : Nat} (d : decode (mC M) pc = .ok (.if_icmp .ne off, 3)) (ht : (pc : Int) + off = (tgt : Int)) (kt : ¬ x = y → Zg g M mc ms Q tgt L st E D ca sa) (kf : x = y → Zg g M mc ms Q (pc + 3) L st E D ca sa) : Zg g M mc ms Q pc L (vI y :: vI x :: st) E D ca sa :=
  zg_ok fun _ h _ => zg_br (c0 := ¬ x = y) (fun hx hb a b => lv_icmp_ne hx hb d ht (fun q => a (fun z => q ((i32_eq (x := x) (y := y) (ok2 h).2.1 (ok2 h).1).mpr z))) (fun q => b (fun z => z ((i32_eq (x := x) (y := y) (ok2 h).2.1 (ok2 h).1).mp q)))) (fun h => (ok2 h).2.2) kt (fun q => kf (Classical.not_not.mp q))
theorem q_icmp_lt {off x y : Int} {tgt : Nat} (d : decode (mC M) pc = .ok (.if_icmp .lt off, 3)) (ht : (pc : Int) + off = (tgt : Int)) (kt : x < y → Zg g M mc ms Q tgt L st E D ca sa) (kf : ¬ x < y → Zg g M mc ms Q (pc + 3) L st E D ca sa) : Zg g M mc ms Q pc L (vI y :: vI x :: st) E D ca sa :=
  zg_ok fun _ h _ => zg_br (c0 := x < y) (fun hx hb a b => lv_icmp_lt hx hb d ht (fun q => a ((i32_lt (x := x) (y := y) (ok2 h).2.1 (ok2 h).1).mp q)) (fun q => b (fun z => q ((i32_lt (x := x) (y := y) (ok2 h).2.1 (ok2 h).1).mpr z)))) (fun h => (ok2 h).2.2) kt kf
theorem q_icmp_ge {off x y : Int} {tgt : Nat} (d : decode (mC M) pc = .ok (.if_icmp .ge off, 3)) (ht : (pc : Int) + off = (tgt : Int)) (kt : y ≤ x → Zg g M mc ms Q tgt L st E D ca sa) (kf : ¬ y ≤ x → Zg g M mc ms Q (pc + 3) L st E D ca sa) : Zg g M mc ms Q pc L (vI y :: vI x :: st) E D ca sa :=
  zg_ok fun _ h _ => zg_br (c0 := y ≤ x) (fun hx hb a b => lv_icmp_ge hx hb d ht (fun q => a ((i32_le (x := y) (y := x) (ok2 h).1 (ok2 h).2.1).mp q)) (fun q => b (fun z => q ((i32_le (x := y) (y := x) (ok2 h).1 (ok2 h).2.1).mpr z)))) (fun h => (ok2 h).2.2) kt kf
theorem q_icmp_gt {off x y : Int} {tgt : Nat} (d : decode (mC M) pc = .ok (.if_icmp .gt off, 3)) (ht : (pc : Int) + off = (tgt : Int)) (kt : y < x → Zg g M mc ms Q tgt L st E D ca sa) (kf : ¬ y < x → Zg g M mc ms Q (pc + 3) L st E D ca sa) : Zg g M mc ms Q pc L (vI y :: vI x :: st) E D ca sa :=
  zg_ok fun _ h _ => zg_br (c0 := y < x) (fun hx hb a b => lv_icmp_gt hx hb d ht (fun q => a ((i32_lt (x := y) (y := x) (ok2 h).1 (ok2 h).2.1).mp q)) (fun q => b (fun z => q ((i32_lt (x := y) (y := x) (ok2 h).1 (ok2 h).2.1).mpr z)))) (fun h => (ok2 h).2.2) kt kf
theorem q_icmp_le {off x y : Int} {tgt : Nat} (d : decode (mC M) pc = .ok (.if_icmp .le off, 3)) (ht : (pc : Int) + off = (tgt : Int)) (kt : x ≤ y → Zg g M mc ms Q tgt L st E D ca sa) (kf : ¬ x ≤ y → Zg g M mc ms Q (pc + 3) L st E D ca sa) : Zg g M mc ms Q pc L (vI y :: vI x :: st) E D ca sa :=
  zg_ok fun _ h _ => zg_br (c0 := x ≤ y) (fun hx hb a b => lv_icmp_le hx hb d ht (fun q => a ((i32_le (x := x) (y := y) (ok2 h).2.1 (ok2 h).1).mp q)) (fun q => b (fun z => q ((i32_le (x := x) (y := y) (ok2 h).2.1 (ok2 h).1).mpr z)))) (fun h => (ok2 h).2.2) kt kf
def zcmp (x y : Int) : Int := if y < x then 1 else if x = y then 0 else -1
theorem q_lcmp {x y : Int} (d : decode (mC M) pc = .ok (.lcmp, 1)) (k : Zg g M mc ms Q (pc + 1) L (vI (zcmp x y) :: st) E D ca sa) : Zg g M mc ms Q pc L (vL y :: vL x :: st) E D ca sa :=
  zg_ok fun _ h _ => by
    have e : lg_cmp (Int64.ofInt x) (Int64.ofInt y) = Int32.ofInt (zcmp x y) := by
      unfold lg_cmp zcmp
      by_cases h1 : y < x
      · rw [if_pos h1, if_pos ((i64_lt (x := y) (y := x) (ok2 h).1 (ok2 h).2.1).mpr h1)]; rfl
      · rw [if_neg h1, if_neg (fun q => h1 ((i64_lt (x := y) (y := x) (ok2 h).1 (ok2 h).2.1).mp q))]
        by_cases h2 : x = y
        · rw [if_pos h2, if_pos ((i64_eq (x := x) (y := y) (ok2 h).2.1 (ok2 h).1).mpr h2)]; rfl
        · rw [if_neg h2, if_neg (fun q => h2 ((i64_eq (x := x) (y := y) (ok2 h).2.1 (ok2 h).1).mp q))]; rfl
    refine zg_pure (fun hx hb kk => W.lcmp hx hb d (by rw [e]; exact kk)) (fun h => okI ?_ (ok2 h).2.2) k
    unfold zcmp
    split
    · omega
    · split <;> omega
theorem q_dup {v : VV} (d : decode (mC M) pc = .ok (.dup, 1)) (hc : zcat v = 1) (k : Zg g M mc ms Q (pc + 1) L (v :: v :: st) E D ca sa) : Zg g M mc ms Q pc L (v :: st) E D ca sa :=
  zg_pure (fun hx hb kk => lv_dup hx hb d ((zcat_val g v).trans hc) kk) (fun h => okc (ok1 h).1 h) k
theorem q_dup2 {v w : VV} (d : decode (mC M) pc = .ok (.dup2, 1)) (hc : zcat v = 1 ∧ zcat w = 1) (k : Zg g M mc ms Q (pc + 1) L (v :: w :: v :: w :: st) E D ca sa) : Zg g M mc ms Q pc L (v :: w :: st) E D ca sa :=
  zg_pure (fun hx hb kk => lv_dup2_11 hx hb d ((zcat_val g v).trans hc.1) ((zcat_val g w).trans hc.2) kk) (fun h => okc (ok2 h).1 (okc (ok2 h).2.1 h)) k
theorem q_null (d : decode (mC M) pc = .ok (.aconst_null, 1)) (k : Zg g M mc ms Q (pc + 1) L (vN :: st) E D ca sa) : Zg g M mc ms Q pc L st E D ca sa :=
  zg_pure (fun hx hb kk => lv_null hx hb d kk) (fun h => okc (v := vN) trivial h) k
theorem q_ifnonnull {a : Nat} {off : Int} {tgt : Nat} (d : decode (mC M) pc = .ok (.ifnonnull off, 3)) (ht : (pc : Int) + off = (tgt : Int)) (k : Zg g M mc ms Q tgt L st E D ca sa) : Zg g M mc ms Q pc L (vR a :: st) E D ca sa :=
  zg_pure (fun hx hb kk => lv_ifnonnull hx hb d ht kk) (fun h => (ok1 h).2) k
theorem q_ifnonnullN {off : Int} (d : decode (mC M) pc = .ok (.ifnonnull off, 3)) (k : Zg g M mc ms Q (pc + 3) L st E D ca sa) : Zg g M mc ms Q pc L (vN :: st) E D ca sa :=
  zg_pure (fun hx hb kk => lv_ifnonnullN hx hb d kk) (fun h => (ok1 h).2) k
theorem q_ifnull {a : Nat} {off : Int} (d : decode (mC M) pc = .ok (.ifnull off, 3)) (k : Zg g M mc ms Q (pc + 3) L st E D ca sa) : Zg g M mc ms Q pc L (vR a :: st) E D ca sa :=
  zg_pure (fun hx hb kk => lv_ifnull hx hb d kk) (fun h => (ok1 h).2) k
theorem q_ifnullN {off : Int} {tgt : Nat} (d : decode (mC M) pc = .ok (.ifnull off, 3)) (ht : (pc : Int) + off = (tgt : Int)) (k : Zg g M mc ms Q tgt L st E D ca sa) : Zg g M mc ms Q pc L (vN :: st) E D ca sa :=
  zg_pure (fun hx hb kk => lv_ifnullN hx hb d ht kk) (fun h => (ok1 h).2) k
theorem q_tsOut {dflt lo hi x : Int} {offs : Array Int} {len tgt : Nat} (d : decode (mC M) pc = .ok (.tableswitch dflt lo hi offs, len)) (h : x < lo ∨ hi < x) (ht : (pc : Int) + dflt = (tgt : Int)) (k : Zg g M mc ms Q tgt L st E D ca sa) : Zg g M mc ms Q pc L (vI x :: st) E D ca sa :=
  zg_ok fun _ o _ => zg_pure (fun hx hb kk => lv_tableOut hx hb d (by rw [i32_ti (x := x) (ok1 o).1]; exact h) ht kk) (fun h => (ok1 h).2) k
theorem q_tsIn {dflt lo hi x off : Int} {offs : Array Int} {len tgt : Nat} (d : decode (mC M) pc = .ok (.tableswitch dflt lo hi offs, len)) (h : lo ≤ x ∧ x ≤ hi) (ho : offs[(x - lo).toNat]? = some off) (ht : (pc : Int) + off = (tgt : Int)) (k : Zg g M mc ms Q tgt L st E D ca sa) : Zg g M mc ms Q pc L (vI x :: st) E D ca sa :=
  zg_ok fun _ o _ => zg_pure (fun hx hb kk => lv_tableIn hx hb d (by rw [i32_ti (x := x) (ok1 o).1]; omega) (by rw [i32_ti (x := x) (ok1 o).1]; omega) (by rw [i32_ti (x := x) (ok1 o).1]; exact ho) ht kk) (fun h => (ok1 h).2) k
end RL
