/-! objects made, field after field -/
/-- an object whose fields are being set: those in F are; all behind it is whole -/
def eC (E0 : EE) (a N : Nat) (F : Nat → Bool) (X : Nat → Nat → Bool) : EE := (fun i k => if i < a then E0.1 i k else if i = a then F k else (decide (i < N) && X i k), N, E0.2.2)
/-- the first elements of an array are set -/
def updX (X : Nat → Nat → Bool) (r j : Nat) : Nat → Nat → Bool := fun i k => if i = r then decide (k < j) else X i k
def updF (F : Nat → Bool) (k : Nat) : Nat → Bool := fun j => if j = k then true else F j
section FLD
variable {g : GG} {M M' : MI} {mc ms mc' ms' : Nat} {Q Q' : Option VV → EE → DD → Prop} {pc : Nat} {L st : List VV} {E E0 E' : EE} {D : DD} {ca sa : Nat} {F : Nat → Bool} {X : Nat → Nat → Bool}
theorem eC_lo {a N i k : Nat} (h : i < a) : (eC E0 a N F X).1 i k = E0.1 i k := if_pos h
theorem eC_at {a N k : Nat} : (eC E0 a N F X).1 a k = F k := by
  show (if a < a then _ else if a = a then _ else _) = _
  rw [if_neg (Nat.lt_irrefl a), if_pos rfl]
theorem eC_in {a N i k : Nat} (h : a < i ∧ i < N) : (eC E0 a N F X).1 i k = X i k := by
  show (if i < a then _ else if i = a then _ else _) = _
  rw [if_neg (by omega), if_neg (by omega), decide_eq_true h.2, Bool.true_and]
theorem eC_out {a N i k : Nat} (h : a < N ∧ N ≤ i) : (eC E0 a N F X).1 i k = false := by
  show (if i < a then _ else if i = a then _ else _) = _
  rw [if_neg (by omega), if_neg (by omega), decide_eq_false (by omega), Bool.false_and]
theorem rp_k {i N0 k t n x : Nat} (h : zk N0 = (t, n, x)) (e : i = N0) (h0 : t ≠ 0 ∧ t ≠ 5) : ¬ rp i k := by
  subst e
  exact rp_no (by rw [h]; exact h0)
/-- at the start nothing is set -/
theorem q_eC {a : Nat} (s0 : ST E D a) (kk : Zg g M mc ms Q pc L st (eC E a (a + 1) (fun _ => false) (fun _ _ => true)) D ca sa) : Zg g M mc ms Q pc L st E D ca sa :=
  q_env (fun H hH => hp_env (E' := eC E a (a + 1) (fun _ => false) (fun _ _ => true)) hH s0.1.symm (fun q => q) fun i hi k _ => by
    have hN := s0.1
    rcases (show i < a ∨ i = a by omega) with y | y
    · exact eC_lo y
    · subst y; rw [eC_at]; exact (s0.2.2.1 i k (Nat.le_refl i)).symm) kk
/-- at the end all is set -/
theorem q_eCB {a s ci x : Nat} (hs : 0 < s) (ha : zk a = (0, ci, x)) (hE : E0.2.2) (hF : ∀ k, k < znf ci → (zft ci k).1 = 2 → F k = true) (hX : ∀ i k, a < i → i < a + s → rp i k → X i k = true) (kk : Zg g M mc ms Q pc L st (eB E0 a s) D ca sa) : Zg g M mc ms Q pc L st (eC E0 a (a + s) F X) D ca sa :=
  q_env_eB rfl ⟨hE, hE⟩ (fun i k hi => eC_lo hi) (fun i k h1 h2 hk => by
    rcases (show i = a ∨ a < i by omega) with y | y
    · subst y
      have q := rp_O ha hk
      rw [eC_at]; exact hF k q.1 q.2
    · rw [eC_in ⟨y, h2⟩]; exact hX i k y h2 hk) kk
/-- a field takes a part that is whole -/
theorem q_fld {ci k N index off a N0 s : Nat} {C : String} {T : u_T} (hc : ZC ci C T N) (hl : Cond.fieldLink (mY M).cls index (T k).1 (T k).2.1 (T k).2.2.1 ∈ zT) (hk : k < N ∧ zft ci k = (2, off) ∧ (T k).2.2.2 = true) (hi : (mY M).name = "<init>") (hdecl : (T k).1 = (mY M).cls) {ty : FieldType} (hd : parseFieldDescriptor (T k).2.2.1 = some ty) (hnr : ∀ x : Nat, narrow ty (.ref x) = .ref x) (hft : ∀ x : Nat, fits ty (.ref x) = true)
    (d : decode (mC M) pc = .ok (.putfield index, 3)) (ha : zk a = (0, ci, 0)) (hE : E0.2.2) (haN : a < N0) (hN : E.2.1 = N0 + s) (hE2 : E.2.2) (h1 : ∀ i k, i < N0 → E.1 i k = (eC E0 a N0 F X).1 i k) (h2 : ∀ i k, N0 ≤ i → i < N0 + s → rp i k → E.1 i k = X i k) (hb : N0 = a + off)
    (kk : Zg g M mc ms Q (pc + 3) L st (eC E0 a (N0 + s) (updF F k) X) D ca sa) : Zg g M mc ms Q pc L (vR N0 :: vR a :: st) E D ca sa := by
  refine q_putRF hc hl hk hi hdecl hd hnr hft d ha (by omega) hb ?_
  refine q_env (fun H hH => hp_env hH hN.symm (fun _ => hE2) fun i hi j hr => ?_) kk
  have hi' : i < N0 + s := by rw [← hN]; exact hi
  rcases (show i < a ∨ i = a ∨ (a < i ∧ i < N0) ∨ N0 ≤ i by omega) with y | y | y | y
  · rw [eC_lo y, eS_o (by omega), h1 i j (by omega), eC_lo y]
  · subst y
    rw [eC_at]
    unfold updF
    by_cases z : j = k
    · subst z; rw [if_pos rfl, eS_i]
    · rw [if_neg z, eS_o (Or.inr z), h1 i j haN, eC_at]
  · rw [eC_in ⟨y.1, hi'⟩, eS_o (by omega), h1 i j y.2, eC_in y]
  · rw [eC_in ⟨by omega, hi'⟩, eS_o (by omega), h2 i j y hi' hr]
/-- a field takes a new array of numbers -/
theorem q_fldI {ci k N index off a N0 n x0 : Nat} {x : Int} {C : String} {T : u_T} (hn : zk N0 = (1, n, x0)) (hx : ¬ Int32.ofInt x < 0 ∧ (Int32.ofInt x).toNatClampNeg = n ∧ n * componentBytes (newarray.typeOf .int) ≤ 536870912) (d0 : decode (mC M) pc = .ok (.newarray .int, 2)) (hz : ∀ i j, N0 ≤ i → D i j = 0) (hcs : ca + 1 ≤ mc ∧ sa + n ≤ ms)
    (hc : ZC ci C T N) (hl : Cond.fieldLink (mY M).cls index (T k).1 (T k).2.1 (T k).2.2.1 ∈ zT) (hk : k < N ∧ zft ci k = (2, off) ∧ (T k).2.2.2 = true) (hi : (mY M).name = "<init>") (hdecl : (T k).1 = (mY M).cls) (hd : parseFieldDescriptor (T k).2.2.1 = some (.array .int))
    (d : decode (mC M) (pc + 2) = .ok (.putfield index, 3)) (ha : zk a = (0, ci, 0)) (hE : E0.2.2) (haN : a < N0) (hb : N0 = a + off)
    (kk : Zg g M mc ms Q (pc + 2 + 3) L st (eC E0 a (N0 + 1) (updF F k) X) D (ca + 1) (sa + n)) : Zg g M mc ms Q pc L (vI x :: vR a :: st) (eC E0 a N0 F X) D ca sa := by
  refine q_newI (E := eC E0 a N0 F X) hn hx d0 hE (fun j => hz _ j (Nat.le_refl _)) hcs ?_
  exact q_fld (N0 := N0) (s := 1) hc hl hk hi hdecl hd (fun _ => rfl) (fun _ => rfl) d ha hE haN rfl hE (fun _ _ _ => rfl) (fun i k h1 h2 hr => absurd hr (rp_k hn (by omega) (by decide))) hb kk
theorem q_fldJ {ci k N index off a N0 n x0 : Nat} {x : Int} {C : String} {T : u_T} (hn : zk N0 = (2, n, x0)) (hx : ¬ Int32.ofInt x < 0 ∧ (Int32.ofInt x).toNatClampNeg = n ∧ n * componentBytes (newarray.typeOf .long) ≤ 536870912) (d0 : decode (mC M) pc = .ok (.newarray .long, 2)) (hz : ∀ i j, N0 ≤ i → D i j = 0) (hcs : ca + 1 ≤ mc ∧ sa + n ≤ ms)
    (hc : ZC ci C T N) (hl : Cond.fieldLink (mY M).cls index (T k).1 (T k).2.1 (T k).2.2.1 ∈ zT) (hk : k < N ∧ zft ci k = (2, off) ∧ (T k).2.2.2 = true) (hi : (mY M).name = "<init>") (hdecl : (T k).1 = (mY M).cls) (hd : parseFieldDescriptor (T k).2.2.1 = some (.array .long))
    (d : decode (mC M) (pc + 2) = .ok (.putfield index, 3)) (ha : zk a = (0, ci, 0)) (hE : E0.2.2) (haN : a < N0) (hb : N0 = a + off)
    (kk : Zg g M mc ms Q (pc + 2 + 3) L st (eC E0 a (N0 + 1) (updF F k) X) D (ca + 1) (sa + n)) : Zg g M mc ms Q pc L (vI x :: vR a :: st) (eC E0 a N0 F X) D ca sa := by
  refine q_newJ (E := eC E0 a N0 F X) hn hx d0 hE (fun j => hz _ j (Nat.le_refl _)) hcs ?_
  exact q_fld (N0 := N0) (s := 1) hc hl hk hi hdecl hd (fun _ => rfl) (fun _ => rfl) d ha hE haN rfl hE (fun _ _ _ => rfl) (fun i k h1 h2 hr => absurd hr (rp_k hn (by omega) (by decide))) hb kk
theorem q_fldZ {ci k N index off a N0 n x0 : Nat} {x : Int} {C : String} {T : u_T} (hn : zk N0 = (3, n, x0)) (hx : ¬ Int32.ofInt x < 0 ∧ (Int32.ofInt x).toNatClampNeg = n ∧ n * componentBytes (newarray.typeOf .boolean) ≤ 536870912) (d0 : decode (mC M) pc = .ok (.newarray .boolean, 2)) (hz : ∀ i j, N0 ≤ i → D i j = 0) (hcs : ca + 1 ≤ mc ∧ sa + n ≤ ms)
    (hc : ZC ci C T N) (hl : Cond.fieldLink (mY M).cls index (T k).1 (T k).2.1 (T k).2.2.1 ∈ zT) (hk : k < N ∧ zft ci k = (2, off) ∧ (T k).2.2.2 = true) (hi : (mY M).name = "<init>") (hdecl : (T k).1 = (mY M).cls) (hd : parseFieldDescriptor (T k).2.2.1 = some (.array .boolean))
    (d : decode (mC M) (pc + 2) = .ok (.putfield index, 3)) (ha : zk a = (0, ci, 0)) (hE : E0.2.2) (haN : a < N0) (hb : N0 = a + off)
    (kk : Zg g M mc ms Q (pc + 2 + 3) L st (eC E0 a (N0 + 1) (updF F k) X) D (ca + 1) (sa + n)) : Zg g M mc ms Q pc L (vI x :: vR a :: st) (eC E0 a N0 F X) D ca sa := by
  refine q_newZ (E := eC E0 a N0 F X) hn hx d0 hE (fun j => hz _ j (Nat.le_refl _)) hcs ?_
  exact q_fld (N0 := N0) (s := 1) hc hl hk hi hdecl hd (fun _ => rfl) (fun _ => rfl) d ha hE haN rfl hE (fun _ _ _ => rfl) (fun i k h1 h2 hr => absurd hr (rp_k hn (by omega) (by decide))) hb kk
theorem q_fldC {ci k N index off a N0 n x0 : Nat} {x : Int} {C : String} {T : u_T} (hn : zk N0 = (4, n, x0)) (hx : ¬ Int32.ofInt x < 0 ∧ (Int32.ofInt x).toNatClampNeg = n ∧ n * componentBytes (newarray.typeOf .char) ≤ 536870912) (d0 : decode (mC M) pc = .ok (.newarray .char, 2)) (hz : ∀ i j, N0 ≤ i → D i j = 0) (hcs : ca + 1 ≤ mc ∧ sa + n ≤ ms)
    (hc : ZC ci C T N) (hl : Cond.fieldLink (mY M).cls index (T k).1 (T k).2.1 (T k).2.2.1 ∈ zT) (hk : k < N ∧ zft ci k = (2, off) ∧ (T k).2.2.2 = true) (hi : (mY M).name = "<init>") (hdecl : (T k).1 = (mY M).cls) (hd : parseFieldDescriptor (T k).2.2.1 = some (.array .char))
    (d : decode (mC M) (pc + 2) = .ok (.putfield index, 3)) (ha : zk a = (0, ci, 0)) (hE : E0.2.2) (haN : a < N0) (hb : N0 = a + off)
    (kk : Zg g M mc ms Q (pc + 2 + 3) L st (eC E0 a (N0 + 1) (updF F k) X) D (ca + 1) (sa + n)) : Zg g M mc ms Q pc L (vI x :: vR a :: st) (eC E0 a N0 F X) D ca sa := by
  refine q_newC (E := eC E0 a N0 F X) hn hx d0 hE (fun j => hz _ j (Nat.le_refl _)) hcs ?_
  exact q_fld (N0 := N0) (s := 1) hc hl hk hi hdecl hd (fun _ => rfl) (fun _ => rfl) d ha hE haN rfl hE (fun _ _ _ => rfl) (fun i k h1 h2 hr => absurd hr (rp_k hn (by omega) (by decide))) hb kk
/-- a field takes an object just made -/
theorem q_fldO {ci k N index off a N0 s : Nat} {C : String} {T : u_T} (hc : ZC ci C T N) (hl : Cond.fieldLink (mY M).cls index (T k).1 (T k).2.1 (T k).2.2.1 ∈ zT) (hk : k < N ∧ zft ci k = (2, off) ∧ (T k).2.2.2 = true) (hi : (mY M).name = "<init>") (hdecl : (T k).1 = (mY M).cls) {ty : FieldType} (hd : parseFieldDescriptor (T k).2.2.1 = some ty) (hnr : ∀ x : Nat, narrow ty (.ref x) = .ref x) (hft : ∀ x : Nat, fits ty (.ref x) = true)
    (d : decode (mC M) pc = .ok (.putfield index, 3)) (ha : zk a = (0, ci, 0)) (hE : E0.2.2) (haN : a < N0) (hb : N0 = a + off) (hX : ∀ i k, N0 ≤ i → i < N0 + s → rp i k → X i k = true)
    (kk : Zg g M mc ms Q (pc + 3) L st (eC E0 a (N0 + s) (updF F k) X) D ca sa) : Zg g M mc ms Q pc L (vR N0 :: vR a :: st) (eB (eP (eC E0 a N0 F X)) N0 s) D ca sa :=
  q_fld (N0 := N0) (s := s) hc hl hk hi hdecl hd hnr hft d ha hE haN rfl hE (fun i k h => by rw [eB_lo h]; rfl) (fun i k h1 h2 hr => by rw [eB_in ⟨h1, h2⟩, hX i k h1 h2 hr]) hb kk
end FLD
