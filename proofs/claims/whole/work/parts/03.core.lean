/-! the abstract machine: values, cells and locals as whole numbers; what the heap is; the judgement Zg; contracts AT -/
abbrev GG : Type := Nat × Nat × Nat × (Nat → Int32) × va_G × (Nat → ClassId)
abbrev gB (g : GG) : Nat := g.1
abbrev gb (g : GG) : Nat := g.2.1
abbrev gL (g : GG) : Nat := g.2.2.1
abbrev gx (g : GG) : Nat → Int32 := g.2.2.2.1
abbrev gD (g : GG) : va_G := g.2.2.2.2.1
abbrev gA (g : GG) : Nat → ClassId := g.2.2.2.2.2
abbrev VV : Type := Nat × Int
abbrev DD : Type := Nat → Int → Int
abbrev EE : Type := (Nat → Nat → Bool) × Nat × Prop
abbrev vI (x : Int) : VV := (0, x)
abbrev vL (x : Int) : VV := (1, x)
abbrev vD (x : Int) : VV := (2, x)
abbrev vR (a : Nat) : VV := (3, (a : Int))
abbrev vN : VV := (4, 0)
abbrev vU : VV := (5, 0)
abbrev vS : VV := (6, 0)
abbrev R32 (x : Int) : Prop := -2147483648 ≤ x ∧ x ≤ 2147483647
abbrev R64 (x : Int) : Prop := -9223372036854775808 ≤ x ∧ x ≤ 9223372036854775807
def val (g : GG) (v : VV) : Value := match v.1 with
  | 0 => .int (Int32.ofInt v.2)
  | 1 => .long (Int64.ofInt v.2)
  | 2 => .double (UInt64.ofNat v.2.toNat)
  | 3 => .ref (gB g + v.2.toNat)
  | 6 => .ref (gb g)
  | _ => .null
def okv (v : VV) : Prop := match v.1 with
  | 0 => R32 v.2
  | 1 => R64 v.2
  | 2 => 0 ≤ v.2 ∧ v.2 < 18446744073709551616
  | _ => True
theorem val_I (g : GG) (x : Int) : val g (vI x) = .int (Int32.ofInt x) := rfl
theorem val_L (g : GG) (x : Int) : val g (vL x) = .long (Int64.ofInt x) := rfl
theorem val_D (g : GG) (x : Int) : val g (vD x) = .double (UInt64.ofNat x.toNat) := rfl
theorem val_R (g : GG) (a : Nat) : val g (vR a) = .ref (gB g + a) := rfl
theorem val_N (g : GG) : val g vN = .null := rfl
theorem val_S (g : GG) : val g vS = .ref (gb g) := rfl
/-- kinds of cells, of fields -/
def zk (a : Nat) : Nat × Nat × Nat := zKT.getD a (9, 0, 0)
def zft (ci k : Nat) : Nat × Nat := (zFT.getD ci []).getD k (9, 0)
def znf (ci : Nat) : Nat := (zFT.getD ci []).length
def zra (t : Nat) : Nat × Nat × Nat := zRA.getD t (0, 0, 0)
def fval (g : GG) (E : EE) (ci i : Nat) (row : Int → Int) (k : Nat) : Value := match zft ci k with
  | (2, off) => if E.1 i k then .ref (gB g + (i + off)) else .null
  | _ => .int (Int32.ofInt (row k))
def cellE (g : GG) (E : EE) (i : Nat) (row : Int → Int) : va_E := match zk i with
  | (0, ci, _) => .inr (ci, (List.range (znf ci)).map (fun k => fval g E ci i row k))
  | (1, n, _) => .inl (gA g 1, n, .inl (fun j => Int32.ofInt (row j)))
  | (2, n, _) => .inl (gA g 2, n, .inr (.inl (fun j => Int64.ofInt (row j))))
  | (3, n, _) => .inl (gA g 3, n, .inl (fun j => Int32.ofInt (row j)))
  | (4, n, _) => .inl (gA g 4, n, .inl (fun j => Int32.ofInt (row j)))
  | (5, n, t) => .inl (gA g (zra t).1, n, .inr (.inr (.inr (.inr (fun j => if E.1 i j then some (gB g + (i + (zra t).2.1 + (zra t).2.2 * j)) else none)))))
  | _ => .inl (0, 0, .inl (fun _ => 0))
def wld (g : GG) (E : EE) (D : DD) : va_W := (List.range E.2.1).map (fun i => (gB g + i, cellE g E i (D i)))
def ztys (g : GG) : List (ClassId × FieldType) := [(gA g 1, .int), (gA g 2, .long), (gA g 3, .boolean), (gA g 4, .char), (gA g 5, .object "SpeedKernel$Natural"), (gA g 6, .object "SpeedKernel$Fraction")]
abbrev zfr (g : GG) : Nat → Prop := fun q => gB g ≤ q
def okD (E : EE) (D : DD) : Prop := ∀ a, a < E.2.1 → ∀ j : Int, match (zk a).1 with
  | 2 => R64 (D a j)
  | _ => R32 (D a j)
def Hp (g : GG) (E : EE) (D : DD) (H : Heap) : Prop := va_P (gD g) zcl (wld g E D) H ∧ gB g + E.2.1 ≤ H.size ∧ (E.2.2 → H.size = gB g + E.2.1) ∧ okD E D
def zw (D : DD) (a : Nat) (i v : Int) : DD := fun b j => if b = a ∧ j = i then v else D b j
theorem zw_eq (D : DD) (a : Nat) (i v : Int) : zw D a i v a i = v := by simp [zw]
theorem zw_ne {D : DD} {a b : Nat} {i j v : Int} (h : b ≠ a ∨ j ≠ i) : zw D a i v b j = D b j := by
  unfold zw
  rw [if_neg]
  rintro ⟨rfl, rfl⟩
  rcases h with h | h <;> exact h rfl
/-- locals -/
def lrel (g : GG) (nL : Nat) (L : List VV) (ls : Array Slot) : Prop := ls.size = nL ∧ lv_wf ls ∧ ∀ (i : Nat) (v : VV), L[i]? = some v → v.1 ≠ 5 → ls[i]? = some (.val (val g v))
def lkill (L : List VV) (i : Nat) : List VV := match i with
  | 0 => L
  | j + 1 => match L[j]? with
    | some (1, _) => L.set j vU
    | some (2, _) => L.set j vU
    | _ => L
def lst1 (L : List VV) (i : Nat) (v : VV) : List VV := (lkill L i).set i v
def lst2 (L : List VV) (i : Nat) (v : VV) : List VV := ((lkill L i).set i v).set (i + 1) vU
def zcat (v : VV) : Nat := match v.1 with
  | 1 => 2
  | 2 => 2
  | _ => 1
def zcats : List VV → Nat
  | [] => 0
  | v :: l => zcat v + zcats l
theorem zcat_val (g : GG) (v : VV) : (val g v).category = zcat v := by
  obtain ⟨t, x⟩ := v
  match t with
  | 0 => rfl
  | 1 => rfl
  | 2 => rfl
  | 3 => rfl
  | 4 => rfl
  | 5 => rfl
  | 6 => rfl
  | n + 7 => rfl
theorem zcats_sum (g : GG) (l : List VV) : ((l.map (val g)).map fun v => v.category).sum = zcats l := by
  induction l with
  | nil => rfl
  | cons v l ih => simp only [List.map_cons, List.sum_cons, ih, zcats, zcat_val]
/-- method records -/
abbrev mY (M : MI) : MethodName := M.1
abbrev mC (M : MI) : ByteArray := M.2.1
abbrev mL (M : MI) : Nat := M.2.2.1
abbrev mR (M : MI) : Option FieldType := M.2.2.2.1
abbrev mdp (M : MI) : Nat := M.2.2.2.2
def zrm (M : MI) (mc ms : Nat) : Room := { frames := mdp M, cells := mc, slots := ms, locals := 48 * mdp M }
def zws (M : MI) : List Cond := Cond.code (mY M) (mC M) (mL M) (mR M) :: zT
def Kn (g : GG) (U : State) : Prop := va_K (gD g) zcl (ztys g) U ∧ (∀ w ∈ zNest, va_Nw w U) ∧ (∀ C, C = "SpeedKernel$Natural" ∨ C = "SpeedKernel$Fraction" → va_AO C U) ∧ va_X (gb g) (gL g) (gx g) U U.heap ∧ gb g < gB g ∧ gB g ≤ U.heap.size
def Cx (g : GG) (M : MI) (p : Program) (s : State) (m : MethodId) (args : Array Value) (meth : Method) (c : Code) : Prop :=
  p.tables.exec = Jvm.exec ∧ c.code = mC M ∧ c.maxLocals = mL M ∧ meth.sig.returnType = mR M ∧ s.vm.findClass (mY M).cls = some m.cls ∧ (∀ w ∈ zT, w.before args s = true) ∧ meth.locks = false ∧ ((mY M).name = "<init>" → meth.name = "<init>") ∧ Kn g s
def Qp (g : GG) (Q : Option VV → EE → DD → Prop) : Array Value → State → Outcome → State → Prop := fun _ st o t =>
  (∃ (r : Option VV) (E' : EE) (D' : DD), o = .returned (r.map (val g)) ∧ (∀ v, r = some v → okv v) ∧ Hp g E' D' t.heap ∧ Q r E' D') ∧ va_F (zfr g) st t
def zPc (g : GG) (as : List VV) (E : EE) (D : DD) : Array Value → State → Prop := fun v U => v = (as.map (val g)).toArray ∧ (∀ v ∈ as, okv v) ∧ Hp g E D U.heap ∧ Kn g U
/-- the contract: from these numbers, method M returns, with Q; at most mc cells of ms slots are new -/
def AT (g : GG) (M : MI) (mc ms : Nat) (as : List VV) (E : EE) (D : DD) (Q : Option VV → EE → DD → Prop) : Prop :=
  ∀ l, Met l (mY M) (zws M) (zrm M mc ms) (zPc g as E D) (Qp g Q) mc ms (zfr g)
/-- the judgement: from pc, with these locals, this stack, these cells, method M returns with Q -/
def Zg (g : GG) (M : MI) (mc ms : Nat) (Q : Option VV → EE → DD → Prop) (pc : Nat) (L st : List VV) (E : EE) (D : DD) (ca sa : Nat) : Prop :=
  ∀ (p : Program) (l : Launch) (e : Env) (R : Room) (s : State) (m : MethodId) (args : Array Value) (below : List Frame) (meth : Method) (c : Code), Cx g M p s m args meth c →
    (mdp M ≤ R.frames ∧ 48 * mdp M ≤ R.locals ∧ mc ≤ R.cells ∧ ms ≤ R.slots) →
    ∀ (H : Heap) (locs : List Loc) (ls : Array Slot), Hp g E D H → va_S (zfr g) s.heap H locs → lrel g (mL M) L ls → (∀ v ∈ L, okv v) → (∀ v ∈ st, okv v) →
      W p l e R s m args below meth c H locs ca sa (MQ below (Qp g Q) args s mc ms (zfr g)) (F0 m pc ls (st.map (val g)))
/-! rules of the kind that moves only the operands -/
section RPURE
variable {g : GG} {M : MI} {mc ms : Nat} {Q : Option VV → EE → DD → Prop} {pc pc' : Nat} {L st st' : List VV} {E : EE} {D : DD} {ca sa : Nat}
theorem zg_pure (h : ∀ {p : Program} {l : Launch} {e : Env} {R : Room} {s : State} {m : MethodId} {args : Array Value} {below : List Frame} {meth : Method} {c : Code} {H : Heap} {locs : List Loc} {cells slots : Nat} {Q : State → Prop} {ls : Array Slot},
      p.tables.exec = Jvm.exec → c.code = mC M → W p l e R s m args below meth c H locs cells slots Q (F0 m pc' ls (st'.map (val g))) → W p l e R s m args below meth c H locs cells slots Q (F0 m pc ls (st.map (val g))))
    (hok : (∀ v ∈ st, okv v) → ∀ v ∈ st', okv v) (k : Zg g M mc ms Q pc' L st' E D ca sa) : Zg g M mc ms Q pc L st E D ca sa := by
  intro p l e R s m args below meth c C hR H locs ls hH hS hl hL hs
  exact h C.1 C.2.1 (k p l e R s m args below meth c C hR H locs ls hH hS hl hL (hok hs))
theorem zg_ok (k : (∀ v ∈ L, okv v) → (∀ v ∈ st, okv v) → okD E D → Zg g M mc ms Q pc L st E D ca sa) : Zg g M mc ms Q pc L st E D ca sa := by
  intro p l e R s m args below meth c C hR H locs ls hH hS hl hL hs
  exact k hL hs hH.2.2.2 p l e R s m args below meth c C hR H locs ls hH hS hl hL hs
theorem ok1 {v : VV} {st : List VV} (h : ∀ w ∈ v :: st, okv w) : okv v ∧ ∀ w ∈ st, okv w := List.forall_mem_cons.mp h
theorem ok2 {v w : VV} {st : List VV} (h : ∀ x ∈ v :: w :: st, okv x) : okv v ∧ okv w ∧ ∀ x ∈ st, okv x := ⟨(ok1 h).1, ok1 (ok1 h).2⟩
theorem okc {v : VV} {st : List VV} (a : okv v) (h : ∀ w ∈ st, okv w) : ∀ w ∈ v :: st, okv w := List.forall_mem_cons.mpr ⟨a, h⟩
theorem okI {x : Int} {st : List VV} (a : R32 x) (h : ∀ w ∈ st, okv w) : ∀ w ∈ vI x :: st, okv w := okc (v := vI x) a h
theorem okL {x : Int} {st : List VV} (a : R64 x) (h : ∀ w ∈ st, okv w) : ∀ w ∈ vL x :: st, okv w := okc (v := vL x) a h
theorem q_iconst {n : Int} (d : decode (mC M) pc = .ok (.iconst n, 1)) (o : R32 n) (k : Zg g M mc ms Q (pc + 1) L (vI n :: st) E D ca sa) : Zg g M mc ms Q pc L st E D ca sa :=
  zg_pure (fun hx hb kk => lv_iconst hx hb d rfl kk) (fun h => okI o h) k
theorem q_bipush {n : Int} (d : decode (mC M) pc = .ok (.bipush n, 2)) (o : (Int8.ofInt n).toInt32 = Int32.ofInt n ∧ R32 n) (k : Zg g M mc ms Q (pc + 2) L (vI n :: st) E D ca sa) : Zg g M mc ms Q pc L st E D ca sa :=
  zg_pure (fun hx hb kk => lv_bipush hx hb d o.1 kk) (fun h => okI o.2 h) k
theorem q_sipush {n : Int} (d : decode (mC M) pc = .ok (.sipush n, 3)) (o : (Int16.ofInt n).toInt32 = Int32.ofInt n ∧ R32 n) (k : Zg g M mc ms Q (pc + 3) L (vI n :: st) E D ca sa) : Zg g M mc ms Q pc L st E D ca sa :=
  zg_pure (fun hx hb kk => lv_sipush hx hb d o.1 kk) (fun h => okI o.2 h) k
theorem q_lconst {n : Fin 2} {x : Int} (d : decode (mC M) pc = .ok (.lconst n, 1)) (o : Int64.ofNat (n : Nat) = Int64.ofInt x ∧ R64 x) (k : Zg g M mc ms Q (pc + 1) L (vL x :: st) E D ca sa) : Zg g M mc ms Q pc L st E D ca sa :=
  zg_pure (fun hx hb kk => lv_lconst hx hb d o.1 kk) (fun h => okL o.2 h) k
theorem q_iadd {x y : Int} (d : decode (mC M) pc = .ok (.iadd, 1)) (o : R32 (x + y)) (k : Zg g M mc ms Q (pc + 1) L (vI (x + y) :: st) E D ca sa) : Zg g M mc ms Q pc L (vI y :: vI x :: st) E D ca sa :=
  zg_pure (fun hx hb kk => lv_iadd hx hb d (by rw [← Int32.ofInt_add]; exact kk)) (fun h => okI o (ok2 h).2.2) k
theorem q_isub {x y : Int} (d : decode (mC M) pc = .ok (.isub, 1)) (o : R32 (x - y)) (k : Zg g M mc ms Q (pc + 1) L (vI (x - y) :: st) E D ca sa) : Zg g M mc ms Q pc L (vI y :: vI x :: st) E D ca sa :=
  zg_pure (fun hx hb kk => lv_isub hx hb d (by rw [← Int32.ofInt_sub]; exact kk)) (fun h => okI o (ok2 h).2.2) k
theorem q_imul {x y : Int} (d : decode (mC M) pc = .ok (.imul, 1)) (o : R32 (x * y)) (k : Zg g M mc ms Q (pc + 1) L (vI (x * y) :: st) E D ca sa) : Zg g M mc ms Q pc L (vI y :: vI x :: st) E D ca sa :=
  zg_pure (fun hx hb kk => lv_imul hx hb d (by rw [← Int32.ofInt_mul]; exact kk)) (fun h => okI o (ok2 h).2.2) k
theorem q_ladd {x y : Int} (d : decode (mC M) pc = .ok (.ladd, 1)) (o : R64 (x + y)) (k : Zg g M mc ms Q (pc + 1) L (vL (x + y) :: st) E D ca sa) : Zg g M mc ms Q pc L (vL y :: vL x :: st) E D ca sa :=
  zg_pure (fun hx hb kk => lv_ladd hx hb d (by rw [← Int64.ofInt_add]; exact kk)) (fun h => okL o (ok2 h).2.2) k
theorem q_lsub {x y : Int} (d : decode (mC M) pc = .ok (.lsub, 1)) (o : R64 (x - y)) (k : Zg g M mc ms Q (pc + 1) L (vL (x - y) :: st) E D ca sa) : Zg g M mc ms Q pc L (vL y :: vL x :: st) E D ca sa :=
  zg_pure (fun hx hb kk => lv_lsub hx hb d (by rw [← Int64.ofInt_sub]; exact kk)) (fun h => okL o (ok2 h).2.2) k
theorem q_lmul {x y : Int} (d : decode (mC M) pc = .ok (.lmul, 1)) (o : R64 (x * y)) (k : Zg g M mc ms Q (pc + 1) L (vL (x * y) :: st) E D ca sa) : Zg g M mc ms Q pc L (vL y :: vL x :: st) E D ca sa :=
  zg_pure (fun hx hb kk => lv_lmul hx hb d (by rw [← Int64.ofInt_mul]; exact kk)) (fun h => okL o (ok2 h).2.2) k
theorem i32_ti {x : Int} (h : R32 x) : (Int32.ofInt x).toInt = x := Int32.toInt_ofInt_of_le (by omega) (by omega)
theorem i64_ti {x : Int} (h : R64 x) : (Int64.ofInt x).toInt = x := Int64.toInt_ofInt_of_le (by omega) (by omega)
theorem i32_eq {x y : Int} (hx : R32 x) (hy : R32 y) : Int32.ofInt x = Int32.ofInt y ↔ x = y := by rw [← Int32.toInt_inj, i32_ti hx, i32_ti hy]
theorem i64_eq {x y : Int} (hx : R64 x) (hy : R64 y) : Int64.ofInt x = Int64.ofInt y ↔ x = y := by rw [← Int64.toInt_inj, i64_ti hx, i64_ti hy]
theorem i32_le {x y : Int} (hx : R32 x) (hy : R32 y) : Int32.ofInt x ≤ Int32.ofInt y ↔ x ≤ y := by rw [Int32.le_iff_toInt_le, i32_ti hx, i32_ti hy]
theorem i32_lt {x y : Int} (hx : R32 x) (hy : R32 y) : Int32.ofInt x < Int32.ofInt y ↔ x < y := by rw [Int32.lt_iff_toInt_lt, i32_ti hx, i32_ti hy]
theorem i64_lt {x y : Int} (hx : R64 x) (hy : R64 y) : Int64.ofInt x < Int64.ofInt y ↔ x < y := by rw [Int64.lt_iff_toInt_lt, i64_ti hx, i64_ti hy]
theorem i32_0 : (0 : Int32) = Int32.ofInt 0 := rfl
theorem i64_0 : (0 : Int64) = Int64.ofInt 0 := rfl
theorem i32_div {x y : Int} (hx : 0 ≤ x ∧ x ≤ 2147483647) (hy : 0 < y ∧ y ≤ 2147483647) : Int32.ofInt x / Int32.ofInt y = Int32.ofInt (x / y) := by
  have h1 := i32_ti (x := x) (by omega)
  have h2 := i32_ti (x := y) (by omega)
  have h4 : 0 ≤ x / y := Int.ediv_nonneg hx.1 (by omega)
  have h5 : x / y ≤ x := Int.ediv_le_self _ hx.1
  have h3 := i32_ti (x := x / y) (by omega)
  rw [← Int32.toInt_inj, Int32.toInt_div, h1, h2, h3, Int.tdiv_eq_ediv_of_nonneg hx.1]
  exact Int.bmod_eq_of_le (by omega) (by omega)
theorem i64_div {x y : Int} (hx : 0 ≤ x ∧ x ≤ 9223372036854775807) (hy : 0 < y ∧ y ≤ 9223372036854775807) : Int64.ofInt x / Int64.ofInt y = Int64.ofInt (x / y) := by
  have h1 := i64_ti (x := x) (by omega)
  have h2 := i64_ti (x := y) (by omega)
  have h4 : 0 ≤ x / y := Int.ediv_nonneg hx.1 (by omega)
  have h5 : x / y ≤ x := Int.ediv_le_self _ hx.1
  have h3 := i64_ti (x := x / y) (by omega)
  rw [← Int64.toInt_inj, Int64.toInt_div, h1, h2, h3, Int.tdiv_eq_ediv_of_nonneg hx.1]
  exact Int.bmod_eq_of_le (by omega) (by omega)
theorem q_idiv {x y : Int} (d : decode (mC M) pc = .ok (.idiv, 1)) (o : 0 ≤ x ∧ 0 < y) (k : Zg g M mc ms Q (pc + 1) L (vI (x / y) :: st) E D ca sa) : Zg g M mc ms Q pc L (vI y :: vI x :: st) E D ca sa :=
  zg_ok fun _ h _ => by
    have hx : R32 x := (ok2 h).2.1
    have hy : R32 y := (ok2 h).1
    have h4 : 0 ≤ x / y := Int.ediv_nonneg o.1 (by omega)
    have h5 : x / y ≤ x := Int.ediv_le_self _ o.1
    exact zg_pure (fun hx1 hb kk => lv_idiv hx1 hb d (by rw [i32_0, i32_eq hy (by omega)]; omega) (by rw [i32_div (x := x) (y := y) (by omega) (by omega)]; exact kk)) (fun h => okI (by omega) (ok2 h).2.2) k
theorem q_irem {x y : Int} (d : decode (mC M) pc = .ok (.irem, 1)) (o : 0 ≤ x ∧ 0 < y) (k : Zg g M mc ms Q (pc + 1) L (vI (x % y) :: st) E D ca sa) : Zg g M mc ms Q pc L (vI y :: vI x :: st) E D ca sa :=
  zg_ok fun _ h _ => by
    have hx : R32 x := (ok2 h).2.1
    have hy : R32 y := (ok2 h).1
    have h4 : 0 ≤ x % y := Int.emod_nonneg _ (by omega)
    have h5 : x % y < y := Int.emod_lt_of_pos _ o.2
    have e : x % y = x - x / y * y := by have := Int.mul_ediv_add_emod x y; rw [Int.mul_comm] at this; omega
    exact zg_pure (fun hx1 hb kk => lv_irem hx1 hb d (by rw [i32_0, i32_eq hy (by omega)]; omega) (by rw [i32_div (x := x) (y := y) (by omega) (by omega), ← Int32.ofInt_mul, ← Int32.ofInt_sub, ← e]; exact kk)) (fun h => okI (by omega) (ok2 h).2.2) k
theorem q_ldiv {x y : Int} (d : decode (mC M) pc = .ok (.ldiv, 1)) (o : 0 ≤ x ∧ 0 < y) (k : Zg g M mc ms Q (pc + 1) L (vL (x / y) :: st) E D ca sa) : Zg g M mc ms Q pc L (vL y :: vL x :: st) E D ca sa :=
  zg_ok fun _ h _ => by
    have hx : R64 x := (ok2 h).2.1
    have hy : R64 y := (ok2 h).1
    have h4 : 0 ≤ x / y := Int.ediv_nonneg o.1 (by omega)
    have h5 : x / y ≤ x := Int.ediv_le_self _ o.1
    exact zg_pure (fun hx1 hb kk => lv_ldiv hx1 hb d (by rw [i64_0, i64_eq hy (by omega)]; omega) (by rw [i64_div (x := x) (y := y) (by omega) (by omega)]; exact kk)) (fun h => okL (by omega) (ok2 h).2.2) k
theorem q_lrem {x y : Int} (d : decode (mC M) pc = .ok (.lrem, 1)) (o : 0 ≤ x ∧ 0 < y) (k : Zg g M mc ms Q (pc + 1) L (vL (x % y) :: st) E D ca sa) : Zg g M mc ms Q pc L (vL y :: vL x :: st) E D ca sa :=
  zg_ok fun _ h _ => by
    have hx : R64 x := (ok2 h).2.1
    have hy : R64 y := (ok2 h).1
    have h4 : 0 ≤ x % y := Int.emod_nonneg _ (by omega)
    have h5 : x % y < y := Int.emod_lt_of_pos _ o.2
    have e : x % y = x - x / y * y := by have := Int.mul_ediv_add_emod x y; rw [Int.mul_comm] at this; omega
    exact zg_pure (fun hx1 hb kk => lv_lrem hx1 hb d (by rw [i64_0, i64_eq hy (by omega)]; omega) (by rw [i64_div (x := x) (y := y) (by omega) (by omega), ← Int64.ofInt_mul, ← Int64.ofInt_sub, ← e]; exact kk)) (fun h => okL (by omega) (ok2 h).2.2) k
end RPURE
