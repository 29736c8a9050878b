/-! the rules once more, where more is known of the run, and for any end -/
abbrev KZ := Program → Launch → Env → Room → State → MethodId → Array Value → List Frame → Method → Code → Prop
abbrev FZ := Array Value → State → List Frame → State → Prop
def Zf (A : Nat → Prop) (K : KZ) (F : FZ) (g : GG) (M : MI) (mc ms : Nat) (pc : Nat) (L st : List VV) (E : EE) (D : DD) (ca sa : Nat) : Prop :=
  ∀ (p : Program) (l : Launch) (e : Env) (R : Room) (s : State) (m : MethodId) (args : Array Value) (below : List Frame) (meth : Method) (c : Code), Cx g M p s m args meth c →
    (mdp M ≤ R.frames ∧ 48 * mdp M ≤ R.locals ∧ mc ≤ R.cells ∧ ms ≤ R.slots) ∧ K p l e R s m args below meth c →
    ∀ (H : Heap) (locs : List Loc) (ls : Array Slot), Hp g E D H → va_S A s.heap H locs → lrel g (mL M) L ls → (∀ v ∈ L, okv v) → (∀ v ∈ st, okv v) →
      W p l e R s m args below meth c H locs ca sa (F args s below) (F0 m pc ls (st.map (val g)))
def FQ (g : GG) (Q : Option VV → EE → DD → Prop) (mc ms : Nat) : FZ := fun args s below => MQ below (Qp g Q) args s mc ms (zfr g)
section ZFR
variable {g : GG} {M M' : MI} {mc ms mc' ms' : Nat} {Q Q' : Option VV → EE → DD → Prop} {pc pc' : Nat} {L L' st st' : List VV} {E E' : EE} {D : DD} {ca sa : Nat} {K : KZ} {F : FZ} {A : Nat → Prop}
theorem zf_zg (h : Zg g M mc ms Q pc L st E D ca sa) : Zf (zfr g) K (FQ g Q mc ms) g M mc ms pc L st E D ca sa := fun p l e R s m args below meth c C hR => h p l e R s m args below meth c C hR.1
theorem zf_pure (h : ∀ {p : Program} {l : Launch} {e : Env} {R : Room} {s : State} {m : MethodId} {args : Array Value} {below : List Frame} {meth : Method} {c : Code} {H : Heap} {locs : List Loc} {cells slots : Nat} {Q : State → Prop} {ls : Array Slot},
      p.tables.exec = Jvm.exec → c.code = mC M → W p l e R s m args below meth c H locs cells slots Q (F0 m pc' ls (st'.map (val g))) → W p l e R s m args below meth c H locs cells slots Q (F0 m pc ls (st.map (val g))))
    (hok : (∀ v ∈ st, okv v) → ∀ v ∈ st', okv v) (k : Zf A K F g M mc ms pc' L st' E D ca sa) : Zf A K F g M mc ms pc L st E D ca sa := by
  intro p l e R s m args below meth c C hR H locs ls hH hS hl hL hs
  exact h C.1 C.2.1 (k p l e R s m args below meth c C hR H locs ls hH hS hl hL (hok hs))
theorem zf_ok (k : (∀ v ∈ L, okv v) → (∀ v ∈ st, okv v) → okD E D → Zf A K F g M mc ms pc L st E D ca sa) : Zf A K F g M mc ms pc L st E D ca sa := by
  intro p l e R s m args below meth c C hR H locs ls hH hS hl hL hs
  exact k hL hs hH.2.2.2 p l e R s m args below meth c C hR H locs ls hH hS hl hL hs
theorem f_iconst {n : Int} (d : decode (mC M) pc = .ok (.iconst n, 1)) (o : R32 n) (k : Zf A K F g M mc ms (pc + 1) L (vI n :: st) E D ca sa) : Zf A K F g M mc ms pc L st E D ca sa :=
  zf_pure (fun hx hb kk => lv_iconst hx hb d rfl kk) (fun h => okI o h) k
theorem f_bipush {n : Int} (d : decode (mC M) pc = .ok (.bipush n, 2)) (o : (Int8.ofInt n).toInt32 = Int32.ofInt n ∧ R32 n) (k : Zf A K F g M mc ms (pc + 2) L (vI n :: st) E D ca sa) : Zf A K F g M mc ms pc L st E D ca sa :=
  zf_pure (fun hx hb kk => lv_bipush hx hb d o.1 kk) (fun h => okI o.2 h) k
theorem f_iadd {x y : Int} (d : decode (mC M) pc = .ok (.iadd, 1)) (o : R32 (x + y)) (k : Zf A K F g M mc ms (pc + 1) L (vI (x + y) :: st) E D ca sa) : Zf A K F g M mc ms pc L (vI y :: vI x :: st) E D ca sa :=
  zf_pure (fun hx hb kk => lv_iadd hx hb d (by rw [← Int32.ofInt_add]; exact kk)) (fun h => okI o (ok2 h).2.2) k
theorem f_isub {x y : Int} (d : decode (mC M) pc = .ok (.isub, 1)) (o : R32 (x - y)) (k : Zf A K F g M mc ms (pc + 1) L (vI (x - y) :: st) E D ca sa) : Zf A K F g M mc ms pc L (vI y :: vI x :: st) E D ca sa :=
  zf_pure (fun hx hb kk => lv_isub hx hb d (by rw [← Int32.ofInt_sub]; exact kk)) (fun h => okI o (ok2 h).2.2) k
theorem f_iload_n {n : Fin 4} {x : Int} (d : decode (mC M) pc = .ok (.iload_n n, 1)) (hi : L[(n : Nat)]? = some (vI x)) (k : Zf A K F g M mc ms (pc + 1) L (vI x :: st) E D ca sa) : Zf A K F g M mc ms pc L st E D ca sa := by
  intro p l e R s m args below meth c C hR H locs ls hH hS hl hL hs
  exact lv_iload_n C.1 C.2.1 d rfl (hl.2.2 _ _ hi (Nat.ne_of_beq_eq_false rfl)) (k p l e R s m args below meth c C hR H locs ls hH hS hl hL (okc (hL _ (List.mem_of_getElem? hi)) hs))
theorem f_iload {i : Nat} {x : Int} (d : decode (mC M) pc = .ok (.iload i, 2)) (hi : L[i]? = some (vI x)) (k : Zf A K F g M mc ms (pc + 2) L (vI x :: st) E D ca sa) : Zf A K F g M mc ms pc L st E D ca sa := by
  intro p l e R s m args below meth c C hR H locs ls hH hS hl hL hs
  exact lv_iload C.1 C.2.1 d (hl.2.2 _ _ hi (Nat.ne_of_beq_eq_false rfl)) (k p l e R s m args below meth c C hR H locs ls hH hS hl hL (okc (hL _ (List.mem_of_getElem? hi)) hs))
theorem f_dload {i : Nat} {x : Int} (d : decode (mC M) pc = .ok (.dload i, 2)) (hi : L[i]? = some (vD x)) (k : Zf (zfr g) K F g M mc ms (pc + 2) L (vD x :: st) E D ca sa) : Zf (zfr g) K F g M mc ms pc L st E D ca sa := by
  intro p l e R s m args below meth c C hR H locs ls hH hS hl hL hs
  exact lv_dload C.1 C.2.1 d (hl.2.2 _ _ hi (Nat.ne_of_beq_eq_false rfl)) (k p l e R s m args below meth c C hR H locs ls hH hS hl hL (okc (hL _ (List.mem_of_getElem? hi)) hs))
theorem f_aload_n {n : Fin 4} {a : Nat} (d : decode (mC M) pc = .ok (.aload_n n, 1)) (hi : L[(n : Nat)]? = some (vR a)) (k : Zf A K F g M mc ms (pc + 1) L (vR a :: st) E D ca sa) : Zf A K F g M mc ms pc L st E D ca sa := by
  intro p l e R s m args below meth c C hR H locs ls hH hS hl hL hs
  exact lv_aload_n C.1 C.2.1 d rfl (hl.2.2 _ _ hi (Nat.ne_of_beq_eq_false rfl)) (k p l e R s m args below meth c C hR H locs ls hH hS hl hL (okc (hL _ (List.mem_of_getElem? hi)) hs))
theorem f_aload {i : Nat} {a : Nat} (d : decode (mC M) pc = .ok (.aload i, 2)) (hi : L[i]? = some (vR a)) (k : Zf A K F g M mc ms (pc + 2) L (vR a :: st) E D ca sa) : Zf A K F g M mc ms pc L st E D ca sa := by
  intro p l e R s m args below meth c C hR H locs ls hH hS hl hL hs
  exact lv_aload C.1 C.2.1 d (hl.2.2 _ _ hi (Nat.ne_of_beq_eq_false rfl)) (k p l e R s m args below meth c C hR H locs ls hH hS hl hL (okc (hL _ (List.mem_of_getElem? hi)) hs))
theorem f_aload_nS {n : Fin 4} (d : decode (mC M) pc = .ok (.aload_n n, 1)) (hi : L[(n : Nat)]? = some vS) (k : Zf A K F g M mc ms (pc + 1) L (vS :: st) E D ca sa) : Zf A K F g M mc ms pc L st E D ca sa := by
  intro p l e R s m args below meth c C hR H locs ls hH hS hl hL hs
  exact lv_aload_n C.1 C.2.1 d rfl (hl.2.2 _ _ hi (Nat.ne_of_beq_eq_false rfl)) (k p l e R s m args below meth c C hR H locs ls hH hS hl hL (okc (hL _ (List.mem_of_getElem? hi)) hs))
theorem zf_st1 {len i : Nat} {v : VV} (hc : zcat v = 1) (hn : i < mL M)
    (h : ∀ {p : Program} {l : Launch} {e : Env} {R : Room} {s : State} {m : MethodId} {args : Array Value} {below : List Frame} {meth : Method} {c : Code} {H : Heap} {locs : List Loc} {cells slots : Nat} {Q : State → Prop} {ls ls' : Array Slot} {rest : List Value},
      p.tables.exec = Jvm.exec → c.code = mC M → storeLocals ls i (val g v) = some ls' → W p l e R s m args below meth c H locs cells slots Q (F0 m (pc + len) ls' rest) → W p l e R s m args below meth c H locs cells slots Q (F0 m pc ls (val g v :: rest)))
    (k : Zf A K F g M mc ms (pc + len) (lst1 L i v) st E D ca sa) : Zf A K F g M mc ms pc L (v :: st) E D ca sa := by
  intro p l e R s m args below meth c C hR H locs ls hH hS hl hL hs
  obtain ⟨ls', e', h'⟩ := lrel_st1 hl hn hc
  exact h C.1 C.2.1 e' (k p l e R s m args below meth c C hR H locs ls' hH hS h' (ok_lst1 hL (ok1 hs).1) (ok1 hs).2)
theorem zf_st2 {len i : Nat} {v : VV} (hc : zcat v = 2) (hn : i + 1 < mL M)
    (h : ∀ {p : Program} {l : Launch} {e : Env} {R : Room} {s : State} {m : MethodId} {args : Array Value} {below : List Frame} {meth : Method} {c : Code} {H : Heap} {locs : List Loc} {cells slots : Nat} {Q : State → Prop} {ls ls' : Array Slot} {rest : List Value},
      p.tables.exec = Jvm.exec → c.code = mC M → storeLocals ls i (val g v) = some ls' → W p l e R s m args below meth c H locs cells slots Q (F0 m (pc + len) ls' rest) → W p l e R s m args below meth c H locs cells slots Q (F0 m pc ls (val g v :: rest)))
    (k : Zf A K F g M mc ms (pc + len) (lst2 L i v) st E D ca sa) : Zf A K F g M mc ms pc L (v :: st) E D ca sa := by
  intro p l e R s m args below meth c C hR H locs ls hH hS hl hL hs
  obtain ⟨ls', e', h'⟩ := lrel_st2 hl hn hc
  exact h C.1 C.2.1 e' (k p l e R s m args below meth c C hR H locs ls' hH hS h' (ok_lst2 hL (ok1 hs).1) (ok1 hs).2)
theorem f_istore {i : Nat} {x : Int} (d : decode (mC M) pc = .ok (.istore i, 2)) (hn : i < mL M) (hl : lst1 L i (vI x) = L') (k : Zf A K F g M mc ms (pc + 2) L' st E D ca sa) : Zf A K F g M mc ms pc L (vI x :: st) E D ca sa := by
  subst hl
  refine zf_st1 (len := 2) (i := i) rfl hn ?_ k
  intro p l e R s m args below meth c H locs cells slots Q ls ls' rest hexec hb e' kk T hT X
  obtain ⟨t, a, b⟩ := kk T hT X
  rw [val_I] at e'
  refine ⟨t, ?_, b⟩
  rw [val_I]
  jvm_step X.here [X.here.top, ↓top_set X.here.top, hexec, hb, d, e']
  exact a
theorem f_dstore {i : Nat} {x : Int} (d : decode (mC M) pc = .ok (.dstore i, 2)) (hn : i + 1 < mL M) (hl : lst2 L i (vD x) = L') (k : Zf (zfr g) K F g M mc ms (pc + 2) L' st E D ca sa) : Zf (zfr g) K F g M mc ms pc L (vD x :: st) E D ca sa := by
  subst hl
  refine zf_st2 (len := 2) (i := i) rfl hn ?_ k
  intro p l e R s m args below meth c H locs cells slots Q ls ls' rest hexec hb e' kk T hT X
  obtain ⟨t, a, b⟩ := kk T hT X
  rw [val_D] at e'
  refine ⟨t, ?_, b⟩
  rw [val_D]
  jvm_step X.here [X.here.top, ↓top_set X.here.top, hexec, hb, d, Op.dstore.sem, e']
  exact a
theorem f_astore_n {n : Fin 4} {a0 : Nat} (d : decode (mC M) pc = .ok (.astore_n n, 1)) (hn : (n : Nat) < mL M) (hl : lst1 L n (vR a0) = L') (k : Zf A K F g M mc ms (pc + 1) L' st E D ca sa) : Zf A K F g M mc ms pc L (vR a0 :: st) E D ca sa := by
  subst hl
  refine zf_st1 (len := 1) (i := n) rfl hn ?_ k
  intro p l e R s m args below meth c H locs cells slots Q ls ls' rest hexec hb e' kk T hT X
  obtain ⟨t, a, b⟩ := kk T hT X
  rw [val_R] at e'
  refine ⟨t, ?_, b⟩
  rw [val_R]
  jvm_step X.here [X.here.top, ↓top_set X.here.top, hexec, hb, d, e', Value.isRef]
  exact a
theorem f_astore {i : Nat} {a0 : Nat} (d : decode (mC M) pc = .ok (.astore i, 2)) (hn : i < mL M) (hl : lst1 L i (vR a0) = L') (k : Zf A K F g M mc ms (pc + 2) L' st E D ca sa) : Zf A K F g M mc ms pc L (vR a0 :: st) E D ca sa := by
  subst hl
  refine zf_st1 (len := 2) (i := i) rfl hn ?_ k
  intro p l e R s m args below meth c H locs cells slots Q ls ls' rest hexec hb e' kk T hT X
  obtain ⟨t, a, b⟩ := kk T hT X
  rw [val_R] at e'
  refine ⟨t, ?_, b⟩
  rw [val_R]
  jvm_step X.here [X.here.top, ↓top_set X.here.top, hexec, hb, d, e', Value.isRef]
  exact a
theorem f_iinc {i : Nat} {n x : Int} (d : decode (mC M) pc = .ok (.iinc i n, 3)) (hi : L[i]? = some (vI x)) (hn : i < mL M) (o : R32 (x + n)) (hl : lst1 L i (vI (x + n)) = L') (k : Zf (zfr g) K F g M mc ms (pc + 3) L' st E D ca sa) : Zf (zfr g) K F g M mc ms pc L st E D ca sa := by
  subst hl
  intro p l e R s m args below meth c C hR H locs ls hH hS hl hL hs
  obtain ⟨ls', e', h'⟩ := lrel_st1 (v := vI (x + n)) hl hn rfl
  have hg := hl.2.2 _ _ hi (Nat.ne_of_beq_eq_false rfl)
  rw [val_I] at hg e'
  rw [Int32.ofInt_add] at e'
  intro T hT X
  obtain ⟨t, a, b⟩ := k p l e R s m args below meth c C hR H locs ls' hH hS h' (ok_lst1 (v := vI (x + n)) hL o) hs T hT X
  have hexec := C.1
  have hb := C.2.1
  refine ⟨t, ?_, b⟩
  jvm_step X.here [X.here.top, ↓top_set X.here.top, hexec, hb, d, hg, e']
  exact a
theorem zf_br {c0 : Prop} {tgt nx : Nat} {stt : List VV} (h : ∀ {p : Program} {l : Launch} {e : Env} {R : Room} {s : State} {m : MethodId} {args : Array Value} {below : List Frame} {meth : Method} {c : Code} {H : Heap} {locs : List Loc} {cells slots : Nat} {Q : State → Prop} {ls : Array Slot},
      p.tables.exec = Jvm.exec → c.code = mC M → (c0 → W p l e R s m args below meth c H locs cells slots Q (F0 m tgt ls (stt.map (val g)))) → (¬ c0 → W p l e R s m args below meth c H locs cells slots Q (F0 m nx ls (stt.map (val g)))) → W p l e R s m args below meth c H locs cells slots Q (F0 m pc ls (st.map (val g))))
    (hok : (∀ v ∈ st, okv v) → ∀ v ∈ stt, okv v) (kt : c0 → Zf A K F g M mc ms tgt L stt E D ca sa) (kf : ¬ c0 → Zf A K F g M mc ms nx L stt E D ca sa) : Zf A K F g M mc ms pc L st E D ca sa := by
  intro p l e R s m args below meth c C hR H locs ls hH hS hl hL hs
  exact h C.1 C.2.1 (fun q => kt q p l e R s m args below meth c C hR H locs ls hH hS hl hL (hok hs)) (fun q => kf q p l e R s m args below meth c C hR H locs ls hH hS hl hL (hok hs))
theorem f_goto {off : Int} {tgt : Nat} (d : decode (mC M) pc = .ok (.goto off, 3)) (ht : (pc : Int) + off = (tgt : Int)) (k : Zf A K F g M mc ms tgt L st E D ca sa) : Zf A K F g M mc ms pc L st E D ca sa :=
  zf_pure (fun hx hb kk => lv_goto hx hb d ht kk) (fun h => h) k
theorem f_if_eq {off x : Int} {tgt : Nat} (d : decode (mC M) pc = .ok (.ifCond .eq off, 3)) (ht : (pc : Int) + off = (tgt : Int)) (kt : x = 0 → Zf A K F g M mc ms tgt L st E D ca sa) (kf : ¬ x = 0 → Zf A K F g M mc ms (pc + 3) L st E D ca sa) : Zf A K F g M mc ms pc L (vI x :: st) E D ca sa :=
  zf_ok fun _ h _ => zf_br (c0 := x = 0) (fun hx hb a b => lv_if_eq hx hb d ht (fun q => a ((i32_eq (x := x) (y := 0) (ok1 h).1 (by omega)).mp q)) (fun q => b (fun z => q ((i32_eq (x := x) (y := 0) (ok1 h).1 (by omega)).mpr z)))) (fun h => (ok1 h).2) kt kf
theorem f_if_ne {off x : Int} {tgt : Nat} (d : decode (mC M) pc = .ok (.ifCond .ne off, 3)) (ht : (pc : Int) + off = (tgt : Int)) (kt : ¬ x = 0 → Zf A K F g M mc ms tgt L st E D ca sa) (kf : x = 0 → Zf A K F g M mc ms (pc + 3) L st E D ca sa) : Zf A K F g M mc ms pc L (vI x :: st) E D ca sa :=
  zf_ok fun _ h _ => zf_br (c0 := ¬ x = 0) (fun hx hb a b => lv_if_ne hx hb d ht (fun q => a (fun z => q ((i32_eq (x := x) (y := 0) (ok1 h).1 (by omega)).mpr z))) (fun q => b (fun z => z ((i32_eq (x := x) (y := 0) (ok1 h).1 (by omega)).mp q)))) (fun h => (ok1 h).2) kt (fun q => kf (Classical.not_not.mp q))
theorem f_if_lt {off x : Int} {tgt : Nat} (d : decode (mC M) pc = .ok (.ifCond .lt off, 3)) (ht : (pc : Int) + off = (tgt : Int)) (kt : x < 0 → Zf A K F g M mc ms tgt L st E D ca sa) (kf : ¬ x < 0 → Zf A K F g M mc ms (pc + 3) L st E D ca sa) : Zf A K F g M mc ms pc L (vI x :: st) E D ca sa :=
  zf_ok fun _ h _ => zf_br (c0 := x < 0) (fun hx hb a b => lv_if_lt hx hb d ht (fun q => a ((i32_lt (x := x) (y := 0) (ok1 h).1 (by omega)).mp q)) (fun q => b (fun z => q ((i32_lt (x := x) (y := 0) (ok1 h).1 (by omega)).mpr z)))) (fun h => (ok1 h).2) kt kf
theorem f_if_ge {off x : Int} {tgt : Nat} (d : decode (mC M) pc = .ok (.ifCond .ge off, 3)) (ht : (pc : Int) + off = (tgt : Int)) (kt : 0 ≤ x → Zf A K F g M mc ms tgt L st E D ca sa) (kf : ¬ 0 ≤ x → Zf A K F g M mc ms (pc + 3) L st E D ca sa) : Zf A K F g M mc ms pc L (vI x :: st) E D ca sa :=
  zf_ok fun _ h _ => zf_br (c0 := 0 ≤ x) (fun hx hb a b => lv_if_ge hx hb d ht (fun q => a ((i32_le (x := 0) (y := x) (by omega) (ok1 h).1).mp q)) (fun q => b (fun z => q ((i32_le (x := 0) (y := x) (by omega) (ok1 h).1).mpr z)))) (fun h => (ok1 h).2) kt kf
theorem f_icmp_eq {off x y : Int} {tgt : Nat} (d : decode (mC M) pc = .ok (.if_icmp .eq off, 3)) (ht : (pc : Int) + off = (tgt : Int)) (kt : x = y → Zf A K F g M mc ms tgt L st E D ca sa) (kf : ¬ x = y → Zf A K F g M mc ms (pc + 3) L st E D ca sa) : Zf A K F g M mc ms pc L (vI y :: vI x :: st) E D ca sa :=
  zf_ok fun _ h _ => zf_br (c0 := x = y) (fun hx hb a b => lv_icmp_eq hx hb d ht (fun q => a ((i32_eq (x := x) (y := y) (ok2 h).2.1 (ok2 h).1).mp q)) (fun q => b (fun z => q ((i32_eq (x := x) (y := y) (ok2 h).2.1 (ok2 h).1).mpr z)))) (fun h => (ok2 h).2.2) kt kf
theorem f_icmp_ne {off x y : Int} {tgt : Nat} (d : decode (mC M) pc = .ok (.if_icmp .ne off, 3)) (ht : (pc : Int) + off = (tgt : Int)) (kt : ¬ x = y → Zf A K F g M mc ms tgt L st E D ca sa) (kf : x = y → Zf A K F g M mc ms (pc + 3) L st E D ca sa) : Zf A K F g M mc ms pc L (vI y :: vI x :: st) E D ca sa :=
  zf_ok fun _ h _ => zf_br (c0 := ¬ x = y) (fun hx hb a b => lv_icmp_ne hx hb d ht (fun q => a (fun z => q ((i32_eq (x := x) (y := y) (ok2 h).2.1 (ok2 h).1).mpr z))) (fun q => b (fun z => z ((i32_eq (x := x) (y := y) (ok2 h).2.1 (ok2 h).1).mp q)))) (fun h => (ok2 h).2.2) kt (fun q => kf (Classical.not_not.mp q))
theorem f_icmp_lt {off x y : Int} {tgt : Nat} (d : decode (mC M) pc = .ok (.if_icmp .lt off, 3)) (ht : (pc : Int) + off = (tgt : Int)) (kt : x < y → Zf A K F g M mc ms tgt L st E D ca sa) (kf : ¬ x < y → Zf A K F g M mc ms (pc + 3) L st E D ca sa) : Zf A K F g M mc ms pc L (vI y :: vI x :: st) E D ca sa :=
  zf_ok fun _ h _ => zf_br (c0 := x < y) (fun hx hb a b => lv_icmp_lt hx hb d ht (fun q => a ((i32_lt (x := x) (y := y) (ok2 h).2.1 (ok2 h).1).mp q)) (fun q => b (fun z => q ((i32_lt (x := x) (y := y) (ok2 h).2.1 (ok2 h).1).mpr z)))) (fun h => (ok2 h).2.2) kt kf
theorem f_icmp_ge {off x y : Int} {tgt : Nat} (d : decode (mC M) pc = .ok (.if_icmp .ge off, 3)) (ht : (pc : Int) + off = (tgt : Int)) (kt : y ≤ x → Zf A K F g M mc ms tgt L st E D ca sa) (kf : ¬ y ≤ x → Zf A K F g M mc ms (pc + 3) L st E D ca sa) : Zf A K F g M mc ms pc L (vI y :: vI x :: st) E D ca sa :=
  zf_ok fun _ h _ => zf_br (c0 := y ≤ x) (fun hx hb a b => lv_icmp_ge hx hb d ht (fun q => a ((i32_le (x := y) (y := x) (ok2 h).1 (ok2 h).2.1).mp q)) (fun q => b (fun z => q ((i32_le (x := y) (y := x) (ok2 h).1 (ok2 h).2.1).mpr z)))) (fun h => (ok2 h).2.2) kt kf
theorem f_icmp_gt {off x y : Int} {tgt : Nat} (d : decode (mC M) pc = .ok (.if_icmp .gt off, 3)) (ht : (pc : Int) + off = (tgt : Int)) (kt : y < x → Zf A K F g M mc ms tgt L st E D ca sa) (kf : ¬ y < x → Zf A K F g M mc ms (pc + 3) L st E D ca sa) : Zf A K F g M mc ms pc L (vI y :: vI x :: st) E D ca sa :=
  zf_ok fun _ h _ => zf_br (c0 := y < x) (fun hx hb a b => lv_icmp_gt hx hb d ht (fun q => a ((i32_lt (x := y) (y := x) (ok2 h).1 (ok2 h).2.1).mp q)) (fun q => b (fun z => q ((i32_lt (x := y) (y := x) (ok2 h).1 (ok2 h).2.1).mpr z)))) (fun h => (ok2 h).2.2) kt kf
theorem f_icmp_le {off x y : Int} {tgt : Nat} (d : decode (mC M) pc = .ok (.if_icmp .le off, 3)) (ht : (pc : Int) + off = (tgt : Int)) (kt : x ≤ y → Zf A K F g M mc ms tgt L st E D ca sa) (kf : ¬ x ≤ y → Zf A K F g M mc ms (pc + 3) L st E D ca sa) : Zf A K F g M mc ms pc L (vI y :: vI x :: st) E D ca sa :=
  zf_ok fun _ h _ => zf_br (c0 := x ≤ y) (fun hx hb a b => lv_icmp_le hx hb d ht (fun q => a ((i32_le (x := x) (y := y) (ok2 h).2.1 (ok2 h).1).mp q)) (fun q => b (fun z => q ((i32_le (x := x) (y := y) (ok2 h).2.1 (ok2 h).1).mpr z)))) (fun h => (ok2 h).2.2) kt kf
theorem f_lcmp {x y : Int} (d : decode (mC M) pc = .ok (.lcmp, 1)) (k : Zf (zfr g) K F g M mc ms (pc + 1) L (vI (zcmp x y) :: st) E D ca sa) : Zf (zfr g) K F g M mc ms pc L (vL y :: vL x :: st) E D ca sa :=
  zf_ok fun _ h _ => by
    have e : lg_cmp (Int64.ofInt x) (Int64.ofInt y) = Int32.ofInt (zcmp x y) := by
      unfold lg_cmp zcmp
      by_cases h1 : y < x
      · rw [if_pos h1, if_pos ((i64_lt (x := y) (y := x) (ok2 h).1 (ok2 h).2.1).mpr h1)]; rfl
      · rw [if_neg h1, if_neg (fun q => h1 ((i64_lt (x := y) (y := x) (ok2 h).1 (ok2 h).2.1).mp q))]
        by_cases h2 : x = y
        · rw [if_pos h2, if_pos ((i64_eq (x := x) (y := y) (ok2 h).2.1 (ok2 h).1).mpr h2)]; rfl
        · rw [if_neg h2, if_neg (fun q => h2 ((i64_eq (x := x) (y := y) (ok2 h).2.1 (ok2 h).1).mp q))]; rfl
    refine zf_pure (fun hx hb kk => W.lcmp hx hb d (by rw [e]; exact kk)) (fun h => okI ?_ (ok2 h).2.2) k
    unfold zcmp
    split
    · omega
    · split <;> omega
theorem f_dup {v : VV} (d : decode (mC M) pc = .ok (.dup, 1)) (hc : zcat v = 1) (k : Zf A K F g M mc ms (pc + 1) L (v :: v :: st) E D ca sa) : Zf A K F g M mc ms pc L (v :: st) E D ca sa :=
  zf_pure (fun hx hb kk => lv_dup hx hb d ((zcat_val g v).trans hc) kk) (fun h => okc (ok1 h).1 h) k
theorem f_tsOut {dflt lo hi x : Int} {offs : Array Int} {len tgt : Nat} (d : decode (mC M) pc = .ok (.tableswitch dflt lo hi offs, len)) (h : x < lo ∨ hi < x) (ht : (pc : Int) + dflt = (tgt : Int)) (k : Zf (zfr g) K F g M mc ms tgt L st E D ca sa) : Zf (zfr g) K F g M mc ms pc L (vI x :: st) E D ca sa :=
  zf_ok fun _ o _ => zf_pure (fun hx hb kk => lv_tableOut hx hb d (by rw [i32_ti (x := x) (ok1 o).1]; exact h) ht kk) (fun h => (ok1 h).2) k
theorem f_tsIn {dflt lo hi x off : Int} {offs : Array Int} {len tgt : Nat} (d : decode (mC M) pc = .ok (.tableswitch dflt lo hi offs, len)) (h : lo ≤ x ∧ x ≤ hi) (ho : offs[(x - lo).toNat]? = some off) (ht : (pc : Int) + off = (tgt : Int)) (k : Zf (zfr g) K F g M mc ms tgt L st E D ca sa) : Zf (zfr g) K F g M mc ms pc L (vI x :: st) E D ca sa :=
  zf_ok fun _ o _ => zf_pure (fun hx hb kk => lv_tableIn hx hb d (by rw [i32_ti (x := x) (ok1 o).1]; omega) (by rw [i32_ti (x := x) (ok1 o).1]; omega) (by rw [i32_ti (x := x) (ok1 o).1]; exact ho) ht kk) (fun h => (ok1 h).2) k
theorem f_iand {x m : Int} (n : Nat) (d : decode (mC M) pc = .ok (.iand, 1)) (hm : (Int32.ofInt m).toBitVec.toNat = 2 ^ n - 1 ∧ n ≤ 31) (k : Zf (zfr g) K F g M mc ms (pc + 1) L (vI (x % 2 ^ n) :: st) E D ca sa) : Zf (zfr g) K F g M mc ms pc L (vI m :: vI x :: st) E D ca sa := by
  refine zf_pure (fun hx hb kk => lv_iand hx hb d (by rw [i32_mask x n hm.1 hm.2]; exact kk)) (fun h => okI ?_ (ok2 h).2.2) k
  have hp : (0 : Int) < 2 ^ n := Int.pow_pos (by decide)
  have h2 : 0 ≤ x % 2 ^ n := Int.emod_nonneg _ (by omega)
  have h3 : x % 2 ^ n < 2 ^ n := Int.emod_lt_of_pos _ hp
  have h4 : (2 : Int) ^ n ≤ 2 ^ 31 := ipow_le hm.2
  omega
theorem f_i2l {x : Int} (d : decode (mC M) pc = .ok (.i2l, 1)) (k : Zf A K F g M mc ms (pc + 1) L (vL x :: st) E D ca sa) : Zf A K F g M mc ms pc L (vI x :: st) E D ca sa :=
  zf_ok fun _ h _ => by
    have hr : R32 x := (ok1 h).1
    exact zf_pure (fun hx hb kk => lv_i2l hx hb d (Int32.toInt64_ofInt (by show (-2147483648 : Int) ≤ x; omega) (by show x ≤ (2147483647 : Int); omega)) kk) (fun h => okL (by omega) (ok1 h).2) k
theorem f_i2d {x : Int} (d : decode (mC M) pc = .ok (.i2d, 1)) (k : Zf (zfr g) K F g M mc ms (pc + 1) L (vD (zi2d x) :: st) E D ca sa) : Zf (zfr g) K F g M mc ms pc L (vI x :: st) E D ca sa :=
  zf_pure (fun hx hb kk => lv_i2d hx hb d (by rw [show FP.i2d (Int32.ofInt x) = zdu (zi2d x) from (zdu_of _).symm]; exact kk)) (fun h => okc (v := vD (zi2d x)) (okD_of _) (ok1 h).2) k
theorem f_dmul {x y : Int} (d : decode (mC M) pc = .ok (.dmul, 1)) (o : vf_n64 (FP.dmul (zdu x) (zdu y))) (k : Zf (zfr g) K F g M mc ms (pc + 1) L (vD (zdmul x y) :: st) E D ca sa) : Zf (zfr g) K F g M mc ms pc L (vD y :: vD x :: st) E D ca sa :=
  zf_pure (fun hx hb kk => lv_dmul hx hb d o (by rw [show FP.dmul (UInt64.ofNat x.toNat) (UInt64.ofNat y.toNat) = zdu (zdmul x y) from (zdu_of _).symm]; exact kk)) (fun h => okc (v := vD (zdmul x y)) (okD_of _) (ok2 h).2.2) k
theorem f_dcmp {x y : Int} {op : CmpOp} (d : decode (mC M) pc = .ok (.dcmp op, 1)) (k : Zf (zfr g) K F g M mc ms (pc + 1) L (vI (zdcmp op x y) :: st) E D ca sa) : Zf (zfr g) K F g M mc ms pc L (vD y :: vD x :: st) E D ca sa := by
  refine zf_pure (fun hx hb kk => lv_dcmp hx hb d (by rw [show Op.cmpValue (FP.dcmp (UInt64.ofNat x.toNat) (UInt64.ofNat y.toNat)) op = Int32.ofInt (zdcmp op x y) from (Int32.ofInt_toInt _).symm]; exact kk)) (fun h => okI ?_ (ok2 h).2.2) k
  have h1 := (Op.cmpValue (FP.dcmp (zdu x) (zdu y)) op).le_toInt
  have h2 := (Op.cmpValue (FP.dcmp (zdu x) (zdu y)) op).toInt_lt
  unfold zdcmp
  omega
theorem f_ldc2d {i : Nat} {x : Int} (hl : Cond.constantDouble (mY M).cls i (zdu x) ∈ zT) (d : decode (mC M) pc = .ok (.ldc2_w i, 3)) (o : 0 ≤ x ∧ x < 18446744073709551616) (k : Zf (zfr g) K F g M mc ms (pc + 3) L (vD x :: st) E D ca sa) : Zf (zfr g) K F g M mc ms pc L st E D ca sa := by
  intro p l e R s m args below meth c C hR H locs ls hH hS hl' hL hs
  exact lv_ldc2d C.1 C.2.1 C.2.2.2.2.1 (C.2.2.2.2.2.1 _ hl) d (k p l e R s m args below meth c C hR H locs ls hH hS hl' hL (okc (v := vD x) o hs))
theorem f_getI {ci k N index : Nat} {C : String} {T : u_T} {a : Nat} {i : Int} (hc : ZC ci C T N) (hl : Cond.fieldLink (mY M).cls index (T k).1 (T k).2.1 (T k).2.2.1 ∈ zT) (hk : k < N ∧ (zft ci k).1 ≠ 2 ∧ (k : Int) = i) (d : decode (mC M) pc = .ok (.getfield index, 3)) (ha : zk a = (0, ci, 0)) (hn : a < E.2.1)
    (kk : Zf A K F g M mc ms (pc + 3) L (vI (D a i) :: st) E D ca sa) : Zf A K F g M mc ms pc L (vR a :: st) E D ca sa := by
  obtain ⟨hk, hf, rfl⟩ := hk
  refine zf_ok fun _ _ hD => ?_
  have hr : R32 (D a k) := by have := hD a hn k; rw [ha] at this; exact this
  intro p l e R s m args below meth c X hR H locs ls hH hS hl' hL hs
  refine va_get (a := gB g + a) (D := gD g) (cl := zcl) (ws := wld g E D) (tys := ztys g) (ci := ci) X.1 X.2.1 X.2.2.2.2.2.1 hc.2.2.1 X.2.2.2.2.1 X.2.2.2.2.2.2.2.2.1 hH.1 a (fs := (List.range (znf ci)).map (fun k => fval g E ci a (D a) k)) (by rw [wld_get hn, cell_O ha]) hc.1 k hk (X.2.2.2.2.2.1 _ hl) (fun _ h => h) (v := .int (Int32.ofInt (D a k))) ?_ d (kk p l e R s m args below meth c X hR H locs ls hH hS hl' hL (okI hr (ok1 hs).2))
  rw [List.getElem?_map, List.getElem?_range (by rw [hc.2.1]; exact hk), Option.map_some, fval_I hf]
theorem f_getIN {ci k N index : Nat} {C h0 : String} {T : u_T} {a : Nat} {i : Int} (hc : ZC ci C T N) (hl : Cond.fieldLinkNest (mY M).cls index (T k).1 (T k).2.1 (T k).2.2.1 h0 ∈ zNest) (hk : k < N ∧ (zft ci k).1 ≠ 2 ∧ (k : Int) = i) (d : decode (mC M) pc = .ok (.getfield index, 3)) (ha : zk a = (0, ci, 0)) (hn : a < E.2.1)
    (kk : Zf A K F g M mc ms (pc + 3) L (vI (D a i) :: st) E D ca sa) : Zf A K F g M mc ms pc L (vR a :: st) E D ca sa := by
  obtain ⟨hk, hf, rfl⟩ := hk
  refine zf_ok fun _ _ hD => ?_
  have hr : R32 (D a k) := by have := hD a hn k; rw [ha] at this; exact this
  intro p l e R s m args below meth c X hR H locs ls hH hS hl' hL hs
  refine va_getN (a := gB g + a) (D := gD g) (cl := zcl) (ws := wld g E D) (tys := ztys g) (ci := ci) X.1 X.2.1 X.2.2.2.2.2.1 hc.2.2.1 X.2.2.2.2.1 X.2.2.2.2.2.2.2.2.1 hH.1 a (fs := (List.range (znf ci)).map (fun k => fval g E ci a (D a) k)) (by rw [wld_get hn, cell_O ha]) hc.1 k hk (va_Nw.use rfl (X.2.2.2.2.2.2.2.2.2.1 _ hl)) (fun _ h => h) (v := .int (Int32.ofInt (D a k))) ?_ d (kk p l e R s m args below meth c X hR H locs ls hH hS hl' hL (okI hr (ok1 hs).2))
  rw [List.getElem?_map, List.getElem?_range (by rw [hc.2.1]; exact hk), Option.map_some, fval_I hf]
theorem f_getR {ci k N index off : Nat} {C : String} {T : u_T} {a : Nat} (hc : ZC ci C T N) (hl : Cond.fieldLink (mY M).cls index (T k).1 (T k).2.1 (T k).2.2.1 ∈ zT) (hk : k < N ∧ zft ci k = (2, off)) (d : decode (mC M) pc = .ok (.getfield index, 3)) (ha : zk a = (0, ci, 0)) (hn : a < E.2.1) (hE : E.1 a k = true)
    (kk : Zf A K F g M mc ms (pc + 3) L (vR (a + off) :: st) E D ca sa) : Zf A K F g M mc ms pc L (vR a :: st) E D ca sa := by
  intro p l e R s m args below meth c X hR H locs ls hH hS hl' hL hs
  refine va_get (a := gB g + a) (D := gD g) (cl := zcl) (ws := wld g E D) (tys := ztys g) (ci := ci) X.1 X.2.1 X.2.2.2.2.2.1 hc.2.2.1 X.2.2.2.2.1 X.2.2.2.2.2.2.2.2.1 hH.1 a (fs := (List.range (znf ci)).map (fun k => fval g E ci a (D a) k)) (by rw [wld_get hn, cell_O ha]) hc.1 k hk.1 (X.2.2.2.2.2.1 _ hl) (fun _ h => h) (v := .ref (gB g + (a + off))) ?_ d (kk p l e R s m args below meth c X hR H locs ls hH hS hl' hL (okc (v := vR (a + off)) trivial (ok1 hs).2))
  rw [List.getElem?_map, List.getElem?_range (by rw [hc.2.1]; exact hk.1), Option.map_some, fval_R hk.2 hE]
theorem f_lald {a n : Nat} {i : Int} (d : decode (mC M) pc = .ok (.laload, 1)) (ha : zk a = (2, n, 0)) (hn : a < E.2.1) (hi : 0 ≤ i ∧ i < n) (kk : Zf (zfr g) K F g M mc ms (pc + 1) L (vL (D a i) :: st) E D ca sa) : Zf (zfr g) K F g M mc ms pc L (vI i :: vR a :: st) E D ca sa := by
  refine zf_ok fun _ h hD => ?_
  have hr : R64 (D a i) := by have := hD a hn i; rw [ha] at this; exact this
  obtain ⟨h1, h2⟩ := ix_in hi (ok2 h).1
  intro p l e R s m args below meth c X hR H locs ls hH hS hl' hL hs
  refine va_lald (a := gB g + a) (D := gD g) (cl := zcl) (ws := wld g E D) (tys := ztys g) X.1 X.2.1 X.2.2.2.2.2.2.2.2.1 hH.1 a 1 (by rw [wld_get hn, cell_2 ha]) rfl h1 d ?_
  rw [h2, Int.toNat_of_nonneg hi.1]
  exact kk p l e R s m args below meth c X hR H locs ls hH hS hl' hL (okL hr (ok2 hs).2.2)
theorem f_last {a n : Nat} {i x : Int} (d : decode (mC M) pc = .ok (.lastore, 1)) (ha : zk a = (2, n, 0)) (hn : a < E.2.1) (hi : 0 ≤ i ∧ i < n) (kk : ∀ D', D' = zw D a i x → Zf (zfr g) K F g M mc ms (pc + 1) L st E D' ca sa) : Zf (zfr g) K F g M mc ms pc L (vL x :: vI i :: vR a :: st) E D ca sa := by
  replace kk := kk _ rfl
  refine zf_ok fun _ h _ => ?_
  have hx : R64 x := (ok1 h).1
  have hsr : ∀ w ∈ st, okv w := (ok2 (ok1 h).2).2.2
  obtain ⟨h1, h2⟩ := ix_in hi (ok1 (ok1 h).2).1
  intro p l e R s m args below meth c X hR H locs ls hH hS hl' hL hs
  have ha0 := hH.1 a _ (wld_get hn)
  rw [cell_2 ha] at ha0
  refine W.last X.1 X.2.1 ha0 ((X.2.2.2.2.2.2.2.2.1.2 1 _ rfl).1 n (fun j => .long (Int64.ofInt (D a j)))) (fun q => by cases q) (by show ¬ (_ < 0 ∨ (arrV _ _ _).slots.size ≤ _); rw [arrV_size]; exact h1) rfl rfl d fun H1 e1 z oq => ?_
  refine kk p l e R s m args below meth c X hR H1 _ ls ⟨?_, by rw [z]; exact hH.2.1, fun t => by rw [z]; exact hH.2.2.1 t, okD_w hH.2.2.2 (fun _ => by rw [ha]; exact hx)⟩ (hS.put z oq (by show gB g ≤ gB g + a; omega)) hl' hL hsr
  refine arr_world (n := n) (i := i) (x := x) hn hH ?_ oq rfl (fun b hb _ => by rw [zw_off hb])
  rw [cell_2 ha]
  show H1[gB g + a]? = some (vp_cell _ _)
  rw [e1]
  show some (Cell.setSlot (vp_cell _ (n, _)) _ _) = _
  rw [vp_cell_l, vp_cell_l, arrV_store]
  congr 2
  funext q
  rw [zw_row]
  show (updV _ _ _ q) = .long (Int64.ofInt (if (q : Int) = i then x else D a q))
  unfold updV
  rw [h2]
  by_cases hq : q = i.toNat
  · rw [if_pos hq, if_pos (by omega)]
  · rw [if_neg hq, if_neg (by omega)]
theorem f_slen (d : decode (mC M) pc = .ok (.arraylength, 1)) (hk : gL g ≤ 2147483647) (kk : Zf (zfr g) K F g M mc ms (pc + 1) L (vI (gL g) :: st) E D ca sa) : Zf (zfr g) K F g M mc ms pc L (vS :: st) E D ca sa := by
  intro p l e R s m args below meth c X hR H locs ls hH hS hl' hL hs
  obtain ⟨hX, hb, hs0⟩ := X.2.2.2.2.2.2.2.2.2.2.2
  refine va_slen (b := gb g) (A := zfr g) X.1 X.2.1 hX (by omega) (by show ¬ gB g ≤ gb g; omega) hS d ?_
  rw [← Int32.ofInt_eq_ofNat]
  exact kk p l e R s m args below meth c X hR H locs ls hH hS hl' hL (okI (by omega) (ok1 hs).2)
theorem f_sld {i : Int} (d : decode (mC M) pc = .ok (.iaload, 1)) (hi : 0 ≤ i ∧ i < gL g) (kk : Zf (zfr g) K F g M mc ms (pc + 1) L (vI ((gx g) i.toNat).toInt :: st) E D ca sa) : Zf (zfr g) K F g M mc ms pc L (vI i :: vS :: st) E D ca sa := by
  refine zf_ok fun _ h _ => ?_
  obtain ⟨h1, h2⟩ := ix_in hi (ok2 h).1
  intro p l e R s m args below meth c X hR H locs ls hH hS hl' hL hs
  obtain ⟨hX, hb, hs0⟩ := X.2.2.2.2.2.2.2.2.2.2.2
  refine va_sld (b := gb g) (A := zfr g) X.1 X.2.1 hX (by omega) (by show ¬ gB g ≤ gb g; omega) hS h1 d ?_
  rw [h2]
  have e9 : Value.int ((gx g) i.toNat) = val g (vI ((gx g) i.toNat).toInt) := by rw [val_I, Int32.ofInt_toInt]
  rw [e9]
  have b1 := ((gx g) i.toNat).le_toInt
  have b2 := ((gx g) i.toNat).toInt_lt
  exact kk p l e R s m args below meth c X hR H locs ls hH hS hl' hL (okI (by omega) (ok2 hs).2.2)
theorem zf_call_core {p : Program} {l : Launch} {e : Env} {R : Room} {s : State} {m : MethodId} {args : Array Value} {below : List Frame} {meth : Method} {c : Code} (X : Cx g M p s m args meth c) (hR : (mdp M ≤ R.frames ∧ 48 * mdp M ≤ R.locals ∧ mc ≤ R.cells ∧ ms ≤ R.slots) ∧ K p l e R s m args below meth c)
    {H : Heap} {locs : List Loc} {ls : Array Slot} {a : Array Value} {st0 : List Value} (hr : va_Run p l e R s m args below meth c H locs ca sa mc' ms' (F0 m pc ls st0) (st.map (val g)) (Qp g Q' a) (zfr g))
    (hS : va_S (zfr g) s.heap H locs) (hl : lrel g (mL M) L ls) (hL : ∀ v ∈ L, okv v) (hs : ∀ v ∈ st, okv v)
    (kk : ∀ r E' D', Q' r E' D' → Zf (zfr g) K F g M mc ms (pc + 3) L (r.toList ++ st) E' D' (ca + mc') (sa + ms')) : W p l e R s m args below meth c H locs ca sa (F args s below) (F0 m pc ls st0) := by
  intro T hT X0
  obtain ⟨v, st₀, t, T', L1, h0, X', hL1, e1, e2, ⟨⟨r, E', D', a1, a2, a3, a4⟩, a5, a6⟩, hst⟩ := hr T hT X0
  have hv : v = r.map (val g) := Outcome.returned.inj a1
  subst hv
  rw [h0] at a5 a6
  have hS' : va_S (zfr g) s.heap T'.heap (locs ++ L1) := ⟨Nat.le_trans hS.1 (by rw [e1]; exact a5), fun q h1 h2 => by rw [e1, a6 q (Nat.lt_of_lt_of_le h1 hS.1) h2]; exact hS.2.1 q h1 h2, fun q hq => by
    rcases List.mem_append.mp hq with h | h
    · exact hS.2.2 q h
    · exact hL1 q h⟩
  obtain ⟨t2, b1, b2⟩ := kk r E' D' a4 p l e R s m args below meth c X hR T'.heap (locs ++ L1) ls (by rw [e1]; exact a3) hS' hl hL (fun w hw => by
    rcases List.mem_append.mp hw with h | h
    · cases r with
      | none => cases h
      | some z => rw [Option.toList_some, List.mem_singleton] at h; rw [h]; exact a2 z rfl
    · exact hs w h) T' rfl X'
  refine ⟨t2, hst t2 ?_, b2⟩
  have e3 : (r.map (val g)).toList ++ st.map (val g) = (r.toList ++ st).map (val g) := by cases r <;> simp
  rw [e3]
  exact b1
theorem f_callV {n index ci N : Nat} {C : String} {T : u_T} {a : Nat} {as stk : List VV} (hM : MOK M' n) (hV : MVV M') (hl : Cond.methodLink (mY M).cls index (mY M') ∈ zT) (hc : ZC ci C T N) (hC : (mY M').cls = C) (d : decode (mC M) pc = .ok (.invokevirtual index, 3)) (hk : callok M M' st = true) (hn : as.length = n) (hstk : stk = as.reverse ++ vR a :: st)
    (ha : zk a = (0, ci, 0)) (hna : a < E.2.1) (hcs : ca + mc' ≤ mc ∧ sa + ms' ≤ ms) (hA : AT g M' mc' ms' (vR a :: as) E D Q') (kk : ∀ r E' D', Q' r E' D' → Zf (zfr g) K F g M mc ms (pc + 3) L (r.toList ++ st) E' D' (ca + mc') (sa + ms')) : Zf (zfr g) K F g M mc ms pc L stk E D ca sa := by
  subst hstk
  intro p l e R s m args below meth c X hR H locs ls hH hS hl' hL hs
  have hts := X.2.2.2.2.2.1
  obtain ⟨hsa, hss⟩ := ok_split hs
  rw [map_rev]
  subst hC
  have hr := va_runV (p := p) (l := l) (e := e) (R := R) (s := s) (m := m) (args := args) (below := below) (meth := meth) (c := c) (H := H) (locs := locs) (cells := ca) (slots := sa) (C := (mY M').cls) (b := gB g + a) (As := as.map (val g)) (rest := st.map (val g)) (g := F0 m pc ls ((as.map (val g)).reverse ++ val g (vR a) :: st.map (val g))) (nL := mL M) ⟨X.1, X.2.1, X.2.2.1, X.2.2.2.2.1, hts⟩ (hA l)
    (⟨callB_of n hts (goodIn_ws hM.1) rfl rfl rfl (hts _ hM.2.1) (hts _ hl) ⟨hM.2.2.2.1, hM.2.2.2.2.1, hM.2.2.2.2.2⟩ (callok_R hk hR.1), hts _ hV.1, hts _ hV.2⟩)
    ⟨blind_Pc, zrecv_of hc X.2.2.2.2.2.2.2.2.1 hH ha hna, fun U hU hW => pre_call X hH hS hsa U hU hW⟩ rfl (by rw [List.length_map]; exact hn) hl'.1 rfl (callok_W hk) d ⟨Nat.le_trans hcs.1 hR.1.2.2.1, Nat.le_trans hcs.2 hR.1.2.2.2⟩
  exact zf_call_core X hR hr hS hl' hL hss kk
theorem f_callS {n index : Nat} {as stk : List VV} (hM : MOK M' n) (hV : MSS M') (hl : Cond.methodLink (mY M).cls index (mY M') ∈ zT) (d : decode (mC M) pc = .ok (.invokestatic index, 3)) (hk : callok M M' st = true) (hn : as.length = n) (hstk : stk = as.reverse ++ st)
    (hcs : ca + mc' ≤ mc ∧ sa + ms' ≤ ms) (hA : AT g M' mc' ms' as E D Q') (kk : ∀ r E' D', Q' r E' D' → Zf (zfr g) K F g M mc ms (pc + 3) L (r.toList ++ st) E' D' (ca + mc') (sa + ms')) : Zf (zfr g) K F g M mc ms pc L stk E D ca sa := by
  subst hstk
  intro p l e R s m args below meth c X hR H locs ls hH hS hl' hL hs
  have hts := X.2.2.2.2.2.1
  obtain ⟨hsa, hss⟩ := ok_splitS hs
  rw [map_revS]
  have hr := va_runS (p := p) (l := l) (e := e) (R := R) (s := s) (m := m) (args := args) (below := below) (meth := meth) (c := c) (H := H) (locs := locs) (cells := ca) (slots := sa) (As := as.map (val g)) (rest := st.map (val g)) (g := F0 m pc ls ((as.map (val g)).reverse ++ st.map (val g))) (nL := mL M) ⟨X.1, X.2.1, X.2.2.1, X.2.2.2.2.1, hts⟩ (hA l)
    (⟨callB_of n hts (goodIn_ws hM.1) rfl rfl rfl (hts _ hM.2.1) (hts _ hl) ⟨hM.2.2.2.1, hM.2.2.2.2.1, hM.2.2.2.2.2⟩ (callok_R hk hR.1), hts _ hV⟩)
    ⟨blind_Pc, fun U hU hW => pre_call X hH hS hsa U hU hW⟩ rfl (by rw [List.length_map]; exact hn) hl'.1 rfl (callok_W hk) d ⟨Nat.le_trans hcs.1 hR.1.2.2.1, Nat.le_trans hcs.2 hR.1.2.2.2⟩
  exact zf_call_core X hR hr hS hl' hL hss kk
theorem f_new {ci N index : Nat} {C : String} {T : u_T} (hc : ZC ci C T N) (hv : zdv ci T N) (hcl : Cond.classLink (mY M).cls index C ∈ zT) (hinst : Cond.instantiable C N ∈ zT) (hini : Cond.initialized C ∈ zT) (d : decode (mC M) pc = .ok (.new index, 3)) {t : Nat} (ha : zk E.2.1 = (0, ci, t)) (hE : E.2.2) (hf : ∀ k, E.1 E.2.1 k = false) (hz : ∀ j, D E.2.1 j = 0) (hcs : ca + 1 ≤ mc ∧ sa + N ≤ ms)
    (kk : Zf (zfr g) K F g M mc ms (pc + 3) L (vR E.2.1 :: st) (eP E) D (ca + 1) (sa + N)) : Zf (zfr g) K F g M mc ms pc L st E D ca sa := by
  intro p l e R s m args below meth c X hR H locs ls hH hS hl' hL hs
  obtain ⟨ty, hty⟩ := hc.2.2.2.1
  have hts := X.2.2.2.2.2.1
  have hK := X.2.2.2.2.2.2.2.2.1
  have hKn := hK.1 ci _ hc.1
  have hsz := hH.2.2.1 hE
  refine W.newcK X.1 X.2.1 X.2.2.2.2.1 (hts _ hcl) (hts _ hinst) (hts _ hini) rfl d (by omega) (by omega) hKn.2.1 hsz fun H1 kC hkC e1 z1 o1 => ?_
  refine kk p l e R s m args below meth c X hR H1 locs ls (hp_push hH hE ?_ (by rw [z1, hsz]) (fun q hq => o1 q (by omega)) hz) ⟨Nat.le_trans hS.1 (by omega), fun x h1 h2 => (o1 x (by have := hS.1; omega)).trans (hS.2.1 x h1 h2), hS.2.2⟩ hl' hL (okc (v := vR _) trivial hs)
  have ec := cell_O (g := g) (E := E) (row := D E.2.1) ha
  rw [ec]
  refine ⟨_, hc.1, (u_born ty hts hc.2.2.1 hKn hkC e1 hty).to fun j hj => ?_⟩
  have hj' : j < znf ci := by rw [hc.2.1]; exact hj
  unfold vp_V
  simp only [List.getD_eq_getElem?_getD, List.getElem?_map, List.getElem?_range hj', Option.map_some, Option.getD_some]
  obtain ⟨ty', h1, h2⟩ := hv j hj
  have e3 : ty j = ty' := Option.some.inj ((hty j hj).symm.trans h1)
  rw [e3, h2]
  by_cases h : (zft ci j).1 = 2
  · obtain ⟨off, h3⟩ : ∃ off, zft ci j = (2, off) := ⟨(zft ci j).2, by rw [← h]⟩
    rw [if_pos h]
    unfold fval
    rw [h3]
    simp only
    rw [hf j, if_neg (by decide)]
  · rw [if_neg h, fval_I h, hz]
    rfl
theorem f_newarr {tk n : Nat} {x : Int} {atype : ArrayType} {a0 : vp_A} (harr : Cond.arrayClass (newarray.typeOf atype) ∈ zT) (hta : (ztys g)[tk - 1]? = some (gA g tk, newarray.typeOf atype)) (hra : ∀ U cA, va_RA U cA (newarray.typeOf atype) → U.vm.findClass ("[" ++ (newarray.typeOf atype).toString) = some cA)
    (h1 : cellE g E E.2.1 (D E.2.1) = .inl (gA g tk, a0)) (h2 : ∀ cA, vp_cell cA a0 = arrV cA n (fun _ => defaultValue (newarray.typeOf atype))) (hx : ¬ Int32.ofInt x < 0 ∧ (Int32.ofInt x).toNatClampNeg = n ∧ n * componentBytes (newarray.typeOf atype) ≤ 536870912)
    (d : decode (mC M) pc = .ok (.newarray atype, 2)) (hE : E.2.2) (hz : ∀ j, D E.2.1 j = 0) (hcs : ca + 1 ≤ mc ∧ sa + n ≤ ms)
    (kk : Zf (zfr g) K F g M mc ms (pc + 2) L (vR E.2.1 :: st) (eP E) D (ca + 1) (sa + n)) : Zf (zfr g) K F g M mc ms pc L (vI x :: st) E D ca sa := by
  intro p l e R s m args below meth c X hR H locs ls hH hS hl' hL hs
  have hts := X.2.2.2.2.2.1
  have hK := X.2.2.2.2.2.2.2.2.1
  have hsz := hH.2.2.1 hE
  refine va_newaK X.1 X.2.1 (hts _ harr) rfl d rfl hx.1 hx.2.1 hx.2.2 (by omega) (by omega) hsz fun H1 cA e1 z1 o1 _ fc => ?_
  refine kk p l e R s m args below meth c X hR H1 locs ls (hp_push hH hE ?_ (by rw [z1, hsz]) (fun q hq => o1 q (by omega)) hz) ⟨Nat.le_trans hS.1 (by omega), fun x h1 h2 => (o1 x (by have := hS.1; omega)).trans (hS.2.1 x h1 h2), hS.2.2⟩ hl' hL (okc (v := vR _) trivial (ok1 hs).2)
  rw [h1]
  have e2 : cA = gA g tk := Option.some.inj (fc.symm.trans (hra _ _ (hK.2 _ _ hta).2))
  show H1[gB g + E.2.1]? = some (vp_cell (gA g tk) a0)
  rw [h2, ← e2]
  exact e1
theorem f_callI {n index : Nat} {a : Nat} {as stk : List VV} (hM : MOK M' n) (hV : MII M') (hr : mR M' = none) (hl : Cond.methodLink (mY M).cls index (mY M') ∈ zT) (d : decode (mC M) pc = .ok (.invokespecial index, 3)) (hk : callok M M' st = true) (hn : as.length = n) (hstk : stk = as.reverse ++ vR a :: st)
    (hcs : ca + mc' ≤ mc ∧ sa + ms' ≤ ms) (hA : AT g M' mc' ms' (vR a :: as) E D Q') (kk : ∀ r E' D', Q' r E' D' → Zf (zfr g) K F g M mc ms (pc + 3) L (r.toList ++ st) E' D' (ca + mc') (sa + ms')) : Zf (zfr g) K F g M mc ms pc L stk E D ca sa := by
  subst hstk
  obtain ⟨y, cc, ml, rr, dp⟩ := M'
  have hr' : rr = none := hr
  subst hr'
  intro p l e R s m args below meth c X hR H locs ls hH hS hl' hL hs
  have hts := X.2.2.2.2.2.1
  obtain ⟨hsa, hss⟩ := ok_split hs
  rw [map_revI]
  have hr := va_runI (p := p) (l := l) (e := e) (R := R) (s := s) (m := m) (args := args) (below := below) (meth := meth) (c := c) (H := H) (locs := locs) (cells := ca) (slots := sa) (b := gB g + a) (As := as.map (val g)) (rest := st.map (val g)) (g := F0 m pc ls ((as.map (val g)).reverse ++ .ref (gB g + a) :: st.map (val g))) (nL := mL M) ⟨X.1, X.2.1, X.2.2.1, X.2.2.2.2.1, hts⟩ (hA l)
    (cwI n hts (goodIn_ws hM.1) rfl rfl rfl (hts _ hM.2.1) (hts _ hl) (hts _ hV.1) hV.2 ⟨hM.2.2.2.1, hM.2.2.2.2.1, hM.2.2.2.2.2⟩ (callok_R hk hR.1))
    ⟨blind_Pc, fun U hU hW => pre_call X hH hS hsa U hU hW⟩ rfl (by rw [List.length_map]; exact hn) hl'.1 rfl (callok_W hk) d ⟨Nat.le_trans hcs.1 hR.1.2.2.1, Nat.le_trans hcs.2 hR.1.2.2.2⟩
  exact zf_call_core X hR hr hS hl' hL hss kk
theorem f_env (h : ∀ H, Hp g E D H → Hp g E' D H) (k : Zf (zfr g) K F g M mc ms pc L st E' D ca sa) : Zf (zfr g) K F g M mc ms pc L st E D ca sa := by
  intro p l e R s m args below meth c X hR H locs ls hH hS hl' hL hs
  exact k p l e R s m args below meth c X hR H locs ls (h H hH) hS hl' hL hs
theorem f_env_eB {a s : Nat} {E0 : EE} (hN : E.2.1 = a + s) (hE : E.2.2 ∧ E0.2.2) (h1 : ∀ i k, i < a → E.1 i k = E0.1 i k) (h2 : ∀ i k, a ≤ i → i < a + s → rp i k → E.1 i k = true) (k : Zf (zfr g) K F g M mc ms pc L st (eB E0 a s) D ca sa) : Zf (zfr g) K F g M mc ms pc L st E D ca sa :=
  f_env (fun H hH => hp_env hH hN.symm (fun _ => hE.1) fun i hi k hk => by
    show (if i < a then E0.1 i k else decide (i < a + s)) = _
    by_cases z : i < a
    · rw [if_pos z, h1 i k z]
    · rw [if_neg z, h2 i k (by omega) (by omega) hk]
      exact decide_eq_true (by omega)) k
theorem f_newJ {n x0 : Nat} {x : Int} (ha : zk E.2.1 = (2, n, x0)) (hx : ¬ Int32.ofInt x < 0 ∧ (Int32.ofInt x).toNatClampNeg = n ∧ n * componentBytes (newarray.typeOf .long) ≤ 536870912) (d : decode (mC M) pc = .ok (.newarray .long, 2)) (hE : E.2.2) (hz : ∀ j, D E.2.1 j = 0) (hcs : ca + 1 ≤ mc ∧ sa + n ≤ ms)
    (kk : Zf (zfr g) K F g M mc ms (pc + 2) L (vR E.2.1 :: st) (eP E) D (ca + 1) (sa + n)) : Zf (zfr g) K F g M mc ms pc L (vI x :: st) E D ca sa :=
  f_newarr (tk := 2) (n := n) (atype := .long) (a0 := (n, .inr (.inl fun j => Int64.ofInt (D E.2.1 j)))) za_long rfl (fun _ _ h => h) (cell_2 ha) (fun cA => by
    rw [vp_cell_l]
    exact arrV_congr fun j _ => by rw [hz]; rfl) hx d hE hz hcs kk
theorem f_sub {ci N index idx2 s b mc1 ms1 : Nat} {C : String} {T : u_T} {P : DD → DD → Prop} (hc : ZC ci C T N) (hv : zdv ci T N) (hi : Cond.instantiable C N ∈ zT ∧ Cond.initialized C ∈ zT) (hcl : Cond.classLink (mY M).cls index C ∈ zT) (d0 : decode (mC M) pc = .ok (.new index, 3)) (d3 : decode (mC M) (pc + 3) = .ok (.dup, 1)) (d4 : decode (mC M) (pc + 3 + 1) = .ok (.invokespecial idx2, 3))
    (hM : MOK M' 0) (hV : MII M') (hr : mR M' = none) (hl : Cond.methodLink (mY M).cls idx2 (mY M') ∈ zT) (hk : callok M M' (vR b :: st) = true) {t : Nat} (ha : zk b = (0, ci, t)) (hN : E.2.1 = b) (hE : E.2.2) (hf : ∀ i k, b ≤ i → E.1 i k = false) (hz : ∀ i j, b ≤ i → D i j = 0) (hcs : ca + 1 + mc1 ≤ mc ∧ sa + N + ms1 ≤ ms)
    (hA : ST (eP E) D b → AT g M' mc1 ms1 [vR b] (eP E) D (fun r E' D' => r = none ∧ E' = eB (eP E) b s ∧ P D D'))
    (kk : ∀ D', P D D' → Zf (zfr g) K F g M mc ms (pc + 3 + 1 + 3) L (vR b :: st) (eB (eP E) b s) D' (ca + 1 + mc1) (sa + N + ms1)) : Zf (zfr g) K F g M mc ms pc L st E D ca sa := by
  subst hN
  refine f_new hc hv hcl hi.1 hi.2 d0 ha hE (fun k => hf _ k (Nat.le_refl _)) (fun j => hz _ j (Nat.le_refl _)) ⟨by omega, by omega⟩ ?_
  refine f_dup d3 rfl ?_
  refine f_callI (as := []) (st := vR E.2.1 :: st) hM hV hr hl d4 hk rfl rfl hcs (hA ⟨rfl, hE, hf, fun i j hi => hz i j (by omega)⟩) ?_
  rintro r E' D' ⟨rfl, rfl, hp⟩
  exact kk D' hp
end ZFR
