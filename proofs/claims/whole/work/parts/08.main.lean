/-! behind the constructors: all cells are there; contracts of whole methods -/
def Sg (g : GG) (M : MI) (Q : Option VV → EE → DD → Prop) (pc : Nat) (L st : List VV) (D : DD) : Prop := Zg g M 0 0 Q pc L st zE D 0 0
def rV (P : DD → Prop) : Option VV → EE → DD → Prop := fun r E D => r = none ∧ E = zE ∧ P D
def rI (P : Int → DD → Prop) : Option VV → EE → DD → Prop := fun r E D => E = zE ∧ ∃ x, r = some (vI x) ∧ P x D
def rL (P : Int → DD → Prop) : Option VV → EE → DD → Prop := fun r E D => E = zE ∧ ∃ x, r = some (vL x) ∧ P x D
def rD (P : Int → DD → Prop) : Option VV → EE → DD → Prop := fun r E D => E = zE ∧ ∃ x, r = some (vD x) ∧ P x D
def rR (P : Nat → DD → Prop) : Option VV → EE → DD → Prop := fun r E D => E = zE ∧ ∃ x, r = some (vR x) ∧ P x D
def rN (P : Option Nat → DD → Prop) : Option VV → EE → DD → Prop := fun r E D => E = zE ∧ ((r = some vN ∧ P none D) ∨ ∃ x, r = some (vR x) ∧ P (some x) D)
def CV (g : GG) (M : MI) (as : List VV) (D : DD) (P : DD → Prop) : Prop := AT g M 0 0 as zE D (rV P)
def CI (g : GG) (M : MI) (as : List VV) (D : DD) (P : Int → DD → Prop) : Prop := AT g M 0 0 as zE D (rI P)
def CL (g : GG) (M : MI) (as : List VV) (D : DD) (P : Int → DD → Prop) : Prop := AT g M 0 0 as zE D (rL P)
def CD (g : GG) (M : MI) (as : List VV) (D : DD) (P : Int → DD → Prop) : Prop := AT g M 0 0 as zE D (rD P)
def CR (g : GG) (M : MI) (as : List VV) (D : DD) (P : Nat → DD → Prop) : Prop := AT g M 0 0 as zE D (rR P)
def CN (g : GG) (M : MI) (as : List VV) (D : DD) (P : Option Nat → DD → Prop) : Prop := AT g M 0 0 as zE D (rN P)
theorem zk_lt {a t n x : Nat} (h : zk a = (t, n, x)) (ht : t < 9) : a < zE.2.1 := by
  show a < 735
  apply Nat.lt_of_not_le
  intro hl
  have hlen : zKT.length = 735 := by decide +kernel
  have : zk a = (9, 0, 0) := by
    unfold zk
    rw [List.getD_eq_getElem?_getD, List.getElem?_eq_none (by omega)]
    rfl
  rw [this] at h
  cases h
  omega
section SM
variable {g : GG} {M M' : MI} {Q : Option VV → EE → DD → Prop} {pc n : Nat} {L st L0 as : List VV} {D : DD}
theorem sg_ok (k : (∀ v ∈ L, okv v) → (∀ v ∈ st, okv v) → okD zE D → Sg g M Q pc L st D) : Sg g M Q pc L st D := zg_ok k
theorem CV.mono {P P' : DD → Prop} (h : CV g M as D P) (hp : ∀ D', P D' → P' D') : CV g M as D P' := AT.mono h fun _ _ D' q => ⟨q.1, q.2.1, hp D' q.2.2⟩
theorem CI.mono {P P' : Int → DD → Prop} (h : CI g M as D P) (hp : ∀ x D', P x D' → P' x D') : CI g M as D P' := AT.mono h fun _ _ D' ⟨e, x, q, r⟩ => ⟨e, x, q, hp x D' r⟩
theorem CL.mono {P P' : Int → DD → Prop} (h : CL g M as D P) (hp : ∀ x D', P x D' → P' x D') : CL g M as D P' := AT.mono h fun _ _ D' ⟨e, x, q, r⟩ => ⟨e, x, q, hp x D' r⟩
theorem CD.mono {P P' : Int → DD → Prop} (h : CD g M as D P) (hp : ∀ x D', P x D' → P' x D') : CD g M as D P' := AT.mono h fun _ _ D' ⟨e, x, q, r⟩ => ⟨e, x, q, hp x D' r⟩
theorem CR.mono {P P' : Nat → DD → Prop} (h : CR g M as D P) (hp : ∀ x D', P x D' → P' x D') : CR g M as D P' := AT.mono h fun _ _ D' ⟨e, x, q, r⟩ => ⟨e, x, q, hp x D' r⟩
theorem CN.mono {P P' : Option Nat → DD → Prop} (h : CN g M as D P) (hp : ∀ x D', P x D' → P' x D') : CN g M as D P' := AT.mono h fun _ _ D' ⟨e, q⟩ => ⟨e, q.elim (fun q => Or.inl ⟨q.1, hp _ _ q.2⟩) fun ⟨x, q, r⟩ => Or.inr ⟨x, q, hp _ _ r⟩⟩
theorem CV.intro {P : DD → Prop} (hM : MOK M n) (hL : (entL as).length ≤ mL M) (h0 : ent as (mL M) = L0) (h : Sg g M (rV P) 0 L0 [] D) : CV g M as D P := at_intro hM hL h0 h
theorem CI.intro {P : Int → DD → Prop} (hM : MOK M n) (hL : (entL as).length ≤ mL M) (h0 : ent as (mL M) = L0) (h : Sg g M (rI P) 0 L0 [] D) : CI g M as D P := at_intro hM hL h0 h
theorem CL.intro {P : Int → DD → Prop} (hM : MOK M n) (hL : (entL as).length ≤ mL M) (h0 : ent as (mL M) = L0) (h : Sg g M (rL P) 0 L0 [] D) : CL g M as D P := at_intro hM hL h0 h
theorem CD.intro {P : Int → DD → Prop} (hM : MOK M n) (hL : (entL as).length ≤ mL M) (h0 : ent as (mL M) = L0) (h : Sg g M (rD P) 0 L0 [] D) : CD g M as D P := at_intro hM hL h0 h
theorem CR.intro {P : Nat → DD → Prop} (hM : MOK M n) (hL : (entL as).length ≤ mL M) (h0 : ent as (mL M) = L0) (h : Sg g M (rR P) 0 L0 [] D) : CR g M as D P := at_intro hM hL h0 h
theorem CN.intro {P : Option Nat → DD → Prop} (hM : MOK M n) (hL : (entL as).length ≤ mL M) (h0 : ent as (mL M) = L0) (h : Sg g M (rN P) 0 L0 [] D) : CN g M as D P := at_intro hM hL h0 h
theorem retV {P : DD → Prop} (h : P D) : rV P none zE D := ⟨rfl, rfl, h⟩
theorem retI {P : Int → DD → Prop} {x : Int} (h : P x D) : rI P (some (vI x)) zE D := ⟨rfl, x, rfl, h⟩
theorem retL {P : Int → DD → Prop} {x : Int} (h : P x D) : rL P (some (vL x)) zE D := ⟨rfl, x, rfl, h⟩
theorem retD {P : Int → DD → Prop} {x : Int} (h : P x D) : rD P (some (vD x)) zE D := ⟨rfl, x, rfl, h⟩
theorem retR {P : Nat → DD → Prop} {x : Nat} (h : P x D) : rR P (some (vR x)) zE D := ⟨rfl, x, rfl, h⟩
theorem retN0 {P : Option Nat → DD → Prop} (h : P none D) : rN P (some vN) zE D := ⟨rfl, Or.inl ⟨rfl, h⟩⟩
theorem retNS {P : Option Nat → DD → Prop} {x : Nat} (h : P (some x) D) : rN P (some (vR x)) zE D := ⟨rfl, Or.inr ⟨x, rfl, h⟩⟩
/-- what stands behind a call, in the words of the callee's contract -/
abbrev Kt (g : GG) (M : MI) (Q : Option VV → EE → DD → Prop) (pc : Nat) (L st : List VV) : Option VV → EE → DD → Prop := fun r E' D' => Zg g M 0 0 Q pc L (r.toList ++ st) E' D' (0 + 0) (0 + 0)
theorem CV.to (h : CV g M' as D (fun D' => Sg g M Q pc L st D')) : AT g M' 0 0 as zE D (Kt g M Q pc L st) := AT.mono h fun r E' D' ⟨a, b, c⟩ => by subst a; subst b; exact c
theorem CI.to (h : CI g M' as D (fun x D' => Sg g M Q pc L (vI x :: st) D')) : AT g M' 0 0 as zE D (Kt g M Q pc L st) := AT.mono h fun r E' D' ⟨b, x, a, c⟩ => by subst a; subst b; exact c
theorem CL.to (h : CL g M' as D (fun x D' => Sg g M Q pc L (vL x :: st) D')) : AT g M' 0 0 as zE D (Kt g M Q pc L st) := AT.mono h fun r E' D' ⟨b, x, a, c⟩ => by subst a; subst b; exact c
theorem CD.to (h : CD g M' as D (fun x D' => Sg g M Q pc L (vD x :: st) D')) : AT g M' 0 0 as zE D (Kt g M Q pc L st) := AT.mono h fun r E' D' ⟨b, x, a, c⟩ => by subst a; subst b; exact c
theorem CR.to (h : CR g M' as D (fun x D' => Sg g M Q pc L (vR x :: st) D')) : AT g M' 0 0 as zE D (Kt g M Q pc L st) := AT.mono h fun r E' D' ⟨b, x, a, c⟩ => by subst a; subst b; exact c
def vO (o : Option Nat) : VV := match o with
  | none => vN
  | some a => vR a
theorem CN.to (h : CN g M' as D (fun o D' => Sg g M Q pc L (vO o :: st) D')) : AT g M' 0 0 as zE D (Kt g M Q pc L st) := AT.mono h fun r E' D' ⟨b, c⟩ => by
  subst b
  rcases c with ⟨rfl, c⟩ | ⟨x, rfl, c⟩
  · exact c
  · exact c
theorem p_callV {M' : MI} {n index ci N : Nat} {C : String} {T : u_T} {a : Nat} {as stk : List VV} (hM : MOK M' n) (hV : MVV M') (hl : Cond.methodLink (mY M).cls index (mY M') ∈ zT) (hc : ZC ci C T N) (hC : (mY M').cls = C) (d : decode (mC M) pc = .ok (.invokevirtual index, 3)) (hk : callok M M' st = true) (hn : as.length = n) (hstk : stk = as.reverse ++ vR a :: st)
    (ha : zk a = (0, ci, 0)) (hA : AT g M' 0 0 (vR a :: as) zE D (Kt g M Q (pc + 3) L st)) : Sg g M Q pc L stk D := q_callV hM hV hl hc hC d hk hn hstk ha (zk_lt ha (by decide)) ⟨Nat.le_refl _, Nat.le_refl _⟩ hA (fun _ _ _ h => h)
theorem p_callVN {M' : MI} {n index ci N : Nat} {C h0 : String} {T : u_T} {a : Nat} {as stk : List VV} (hM : MOK M' n) (hV : MVV M') (hl : Cond.methodLinkNest (mY M).cls index (mY M') h0 ∈ zNest) (hc : ZC ci C T N) (hC : (mY M').cls = C) (d : decode (mC M) pc = .ok (.invokevirtual index, 3)) (hk : callok M M' st = true) (hn : as.length = n) (hstk : stk = as.reverse ++ vR a :: st)
    (ha : zk a = (0, ci, 0)) (hA : AT g M' 0 0 (vR a :: as) zE D (Kt g M Q (pc + 3) L st)) : Sg g M Q pc L stk D := q_callVN hM hV hl hc hC d hk hn hstk ha (zk_lt ha (by decide)) ⟨Nat.le_refl _, Nat.le_refl _⟩ hA (fun _ _ _ h => h)
theorem p_callS {M' : MI} {n index : Nat} {as stk : List VV} (hM : MOK M' n) (hV : MSS M') (hl : Cond.methodLink (mY M).cls index (mY M') ∈ zT) (d : decode (mC M) pc = .ok (.invokestatic index, 3)) (hk : callok M M' st = true) (hn : as.length = n) (hstk : stk = as.reverse ++ st)
    (hA : AT g M' 0 0 as zE D (Kt g M Q (pc + 3) L st)) : Sg g M Q pc L stk D := q_callS hM hV hl d hk hn hstk ⟨Nat.le_refl _, Nat.le_refl _⟩ hA (fun _ _ _ h => h)
theorem p_callSN {M' : MI} {n index : Nat} {h0 : String} {as stk : List VV} (hM : MOK M' n) (hV : MSS M') (hl : Cond.methodLinkNest (mY M).cls index (mY M') h0 ∈ zNest) (d : decode (mC M) pc = .ok (.invokestatic index, 3)) (hk : callok M M' st = true) (hn : as.length = n) (hstk : stk = as.reverse ++ st)
    (hA : AT g M' 0 0 as zE D (Kt g M Q (pc + 3) L st)) : Sg g M Q pc L stk D := q_callSN hM hV hl d hk hn hstk ⟨Nat.le_refl _, Nat.le_refl _⟩ hA (fun _ _ _ h => h)
theorem p_getI {ci k N index : Nat} {C : String} {T : u_T} {a : Nat} {i : Int} (hc : ZC ci C T N) (hl : Cond.fieldLink (mY M).cls index (T k).1 (T k).2.1 (T k).2.2.1 ∈ zT) (hk : k < N ∧ (zft ci k).1 ≠ 2 ∧ (k : Int) = i) (d : decode (mC M) pc = .ok (.getfield index, 3)) (ha : zk a = (0, ci, 0)) (kk : Sg g M Q (pc + 3) L (vI (D a i) :: st) D) : Sg g M Q pc L (vR a :: st) D := q_getI hc hl hk d ha (zk_lt ha (by decide)) kk
theorem p_getIN {ci k N index : Nat} {C h0 : String} {T : u_T} {a : Nat} {i : Int} (hc : ZC ci C T N) (hl : Cond.fieldLinkNest (mY M).cls index (T k).1 (T k).2.1 (T k).2.2.1 h0 ∈ zNest) (hk : k < N ∧ (zft ci k).1 ≠ 2 ∧ (k : Int) = i) (d : decode (mC M) pc = .ok (.getfield index, 3)) (ha : zk a = (0, ci, 0)) (kk : Sg g M Q (pc + 3) L (vI (D a i) :: st) D) : Sg g M Q pc L (vR a :: st) D := q_getIN hc hl hk d ha (zk_lt ha (by decide)) kk
theorem p_getR {ci k N index off : Nat} {C : String} {T : u_T} {a b : Nat} (hc : ZC ci C T N) (hl : Cond.fieldLink (mY M).cls index (T k).1 (T k).2.1 (T k).2.2.1 ∈ zT) (hk : k < N ∧ zft ci k = (2, off)) (d : decode (mC M) pc = .ok (.getfield index, 3)) (ha : zk a = (0, ci, 0)) (hb : a + off = b) (kk : Sg g M Q (pc + 3) L (vR b :: st) D) : Sg g M Q pc L (vR a :: st) D := by subst hb; exact q_getR hc hl hk d ha (zk_lt ha (by decide)) rfl kk
theorem p_getRN {ci k N index off : Nat} {C h0 : String} {T : u_T} {a b : Nat} (hc : ZC ci C T N) (hl : Cond.fieldLinkNest (mY M).cls index (T k).1 (T k).2.1 (T k).2.2.1 h0 ∈ zNest) (hk : k < N ∧ zft ci k = (2, off)) (d : decode (mC M) pc = .ok (.getfield index, 3)) (ha : zk a = (0, ci, 0)) (hb : a + off = b) (kk : Sg g M Q (pc + 3) L (vR b :: st) D) : Sg g M Q pc L (vR a :: st) D := by subst hb; exact q_getRN hc hl hk d ha (zk_lt ha (by decide)) rfl kk
theorem p_putI {ci k N index : Nat} {C : String} {T : u_T} {a : Nat} {i x : Int} (hc : ZC ci C T N) (hl : Cond.fieldLink (mY M).cls index (T k).1 (T k).2.1 (T k).2.2.1 ∈ zT) (hk : k < N ∧ (zft ci k).1 ≠ 2 ∧ (k : Int) = i ∧ (T k).2.2.2 = false) (hd : (T k).2.2.1 = "I" ∨ ((T k).2.2.1 = "Z" ∧ 0 ≤ x ∧ x ≤ 1)) (d : decode (mC M) pc = .ok (.putfield index, 3)) (ha : zk a = (0, ci, 0)) (kk : ∀ D', D' = zw D a i x → Sg g M Q (pc + 3) L st D') : Sg g M Q pc L (vI x :: vR a :: st) D := q_putI hc hl hk hd d ha (zk_lt ha (by decide)) kk
theorem p_putIN {ci k N index : Nat} {C h0 : String} {T : u_T} {a : Nat} {i x : Int} (hc : ZC ci C T N) (hl : Cond.fieldLinkNest (mY M).cls index (T k).1 (T k).2.1 (T k).2.2.1 h0 ∈ zNest) (hk : k < N ∧ (zft ci k).1 ≠ 2 ∧ (k : Int) = i ∧ (T k).2.2.2 = false) (hd : (T k).2.2.1 = "I" ∨ ((T k).2.2.1 = "Z" ∧ 0 ≤ x ∧ x ≤ 1)) (d : decode (mC M) pc = .ok (.putfield index, 3)) (ha : zk a = (0, ci, 0)) (kk : ∀ D', D' = zw D a i x → Sg g M Q (pc + 3) L st D') : Sg g M Q pc L (vI x :: vR a :: st) D := q_putIN hc hl hk hd d ha (zk_lt ha (by decide)) kk
theorem p_iald {a n : Nat} {i : Int} (d : decode (mC M) pc = .ok (.iaload, 1)) (ha : zk a = (1, n, 0)) (hi : 0 ≤ i ∧ i < n) (kk : Sg g M Q (pc + 1) L (vI (D a i) :: st) D) : Sg g M Q pc L (vI i :: vR a :: st) D := q_iald d ha (zk_lt ha (by decide)) hi kk
theorem p_zald {a n : Nat} {i : Int} (d : decode (mC M) pc = .ok (.baload, 1)) (ha : zk a = (3, n, 0)) (hi : 0 ≤ i ∧ i < n) (kk : Sg g M Q (pc + 1) L (vI (D a i) :: st) D) : Sg g M Q pc L (vI i :: vR a :: st) D := q_zald d ha (zk_lt ha (by decide)) hi kk
theorem p_cald {a n : Nat} {i : Int} (d : decode (mC M) pc = .ok (.caload, 1)) (ha : zk a = (4, n, 0)) (hi : 0 ≤ i ∧ i < n) (kk : Sg g M Q (pc + 1) L (vI (D a i) :: st) D) : Sg g M Q pc L (vI i :: vR a :: st) D := q_cald d ha (zk_lt ha (by decide)) hi kk
theorem p_lald {a n : Nat} {i : Int} (d : decode (mC M) pc = .ok (.laload, 1)) (ha : zk a = (2, n, 0)) (hi : 0 ≤ i ∧ i < n) (kk : Sg g M Q (pc + 1) L (vL (D a i) :: st) D) : Sg g M Q pc L (vI i :: vR a :: st) D := q_lald d ha (zk_lt ha (by decide)) hi kk
theorem p_iast {a n : Nat} {i x : Int} (d : decode (mC M) pc = .ok (.iastore, 1)) (ha : zk a = (1, n, 0)) (hi : 0 ≤ i ∧ i < n) (kk : ∀ D', D' = zw D a i x → Sg g M Q (pc + 1) L st D') : Sg g M Q pc L (vI x :: vI i :: vR a :: st) D := q_iast d ha (zk_lt ha (by decide)) hi kk
theorem p_zast {a n : Nat} {i x : Int} (d : decode (mC M) pc = .ok (.bastore, 1)) (ha : zk a = (3, n, 0)) (hi : 0 ≤ i ∧ i < n) (ox : 0 ≤ x ∧ x ≤ 1) (kk : ∀ D', D' = zw D a i x → Sg g M Q (pc + 1) L st D') : Sg g M Q pc L (vI x :: vI i :: vR a :: st) D := q_zast d ha (zk_lt ha (by decide)) hi ox kk
theorem p_cast {a n : Nat} {i x : Int} (d : decode (mC M) pc = .ok (.castore, 1)) (ha : zk a = (4, n, 0)) (hi : 0 ≤ i ∧ i < n) (ox : 0 ≤ x ∧ x < 65536) (kk : ∀ D', D' = zw D a i x → Sg g M Q (pc + 1) L st D') : Sg g M Q pc L (vI x :: vI i :: vR a :: st) D := q_cast d ha (zk_lt ha (by decide)) hi ox kk
theorem p_last {a n : Nat} {i x : Int} (d : decode (mC M) pc = .ok (.lastore, 1)) (ha : zk a = (2, n, 0)) (hi : 0 ≤ i ∧ i < n) (kk : ∀ D', D' = zw D a i x → Sg g M Q (pc + 1) L st D') : Sg g M Q pc L (vL x :: vI i :: vR a :: st) D := q_last d ha (zk_lt ha (by decide)) hi kk
theorem p_aald {a n t b : Nat} {i : Int} (d : decode (mC M) pc = .ok (.aaload, 1)) (ha : zk a = (5, n, t)) (ht : (zra t).1 = 5 ∨ (zra t).1 = 6) (hi : 0 ≤ i ∧ i < n) (hb : a + (zra t).2.1 + (zra t).2.2 * i.toNat = b) (kk : Sg g M Q (pc + 1) L (vR b :: st) D) : Sg g M Q pc L (vI i :: vR a :: st) D := by subst hb; exact q_aald d ha ht (zk_lt ha (by decide)) hi rfl kk
theorem p_alen {a n : Nat} (d : decode (mC M) pc = .ok (.arraylength, 1)) (ha : zk a = (1, n, 0)) (hk : n ≤ 2147483647) (kk : Sg g M Q (pc + 1) L (vI n :: st) D) : Sg g M Q pc L (vR a :: st) D := q_alen d ha ⟨rfl, hk⟩ (zk_lt ha (by decide)) kk
end SM
theorem zcmp_lt {x y : Int} : zcmp x y < 0 ↔ x < y := by unfold zcmp; split <;> (try split) <;> omega
theorem zcmp_le {x y : Int} : zcmp x y ≤ 0 ↔ x ≤ y := by unfold zcmp; split <;> (try split) <;> omega
theorem zcmp_gt {x y : Int} : 0 < zcmp x y ↔ y < x := by unfold zcmp; split <;> (try split) <;> omega
theorem zcmp_ge {x y : Int} : 0 ≤ zcmp x y ↔ y ≤ x := by unfold zcmp; split <;> (try split) <;> omega
theorem zcmp_eq {x y : Int} : zcmp x y = 0 ↔ x = y := by unfold zcmp; split <;> (try split) <;> omega
theorem zcmp_ne {x y : Int} : ¬ zcmp x y = 0 ↔ ¬ x = y := not_congr zcmp_eq
theorem zc_Ke : ZC 0 R_Ke F_Ke 9 := ⟨rfl, by decide +kernel, i_Ke, ⟨t_Ke, t_Ke_ok⟩, n_Ke⟩
theorem zc_Jo : ZC 1 R_Jo F_Jo 5 := ⟨rfl, by decide +kernel, i_Jo, ⟨t_Jo, t_Jo_ok⟩, n_Jo⟩
theorem zc_Le : ZC 2 R_Le F_Le 3 := ⟨rfl, by decide +kernel, i_Le, ⟨t_Le, t_Le_ok⟩, n_Le⟩
theorem zc_Na : ZC 3 R_Na F_Na 2 := ⟨rfl, by decide +kernel, i_Na, ⟨t_Na, t_Na_ok⟩, n_Na⟩
theorem zc_Fr : ZC 4 R_Fr F_Fr 2 := ⟨rfl, by decide +kernel, i_Fr, ⟨t_Fr, t_Fr_ok⟩, n_Fr⟩
theorem zc_Pr : ZC 5 R_Pr F_Pr 8 := ⟨rfl, by decide +kernel, i_Pr, ⟨t_Pr, t_Pr_ok⟩, n_Pr⟩
theorem zc_Re : ZC 6 R_Re F_Re 9 := ⟨rfl, by decide +kernel, i_Re, ⟨t_Re, t_Re_ok⟩, n_Re⟩
theorem zc_Pl : ZC 7 R_Pl F_Pl 13 := ⟨rfl, by decide +kernel, i_Pl, ⟨t_Pl, t_Pl_ok⟩, n_Pl⟩
theorem zc_Fo : ZC 8 R_Fo F_Fo 9 := ⟨rfl, by decide +kernel, i_Fo, ⟨t_Fo, t_Fo_ok⟩, n_Fo⟩
theorem zc_Sp : ZC 9 R_Sp F_Sp 6 := ⟨rfl, by decide +kernel, i_Sp, ⟨t_Sp, t_Sp_ok⟩, n_Sp⟩
theorem zc_Te : ZC 10 R_Te F_Te 4 := ⟨rfl, by decide +kernel, i_Te, ⟨t_Te, t_Te_ok⟩, n_Te⟩
theorem zc_Mo : ZC 11 R_Mo F_Mo 34 := ⟨rfl, by decide +kernel, i_Mo, ⟨t_Mo, t_Mo_ok⟩, n_Mo⟩
def zch (k : Nat × Nat × Nat) (f : List (Nat × Nat × Nat) → Bool) : List (Nat × Nat × Nat) → Bool
  | [] => true
  | x :: l => (if x == k then f (x :: l) else true) && zch k f l
theorem zch_ok {k : Nat × Nat × Nat} {f : List (Nat × Nat × Nat) → Bool} {l : List (Nat × Nat × Nat)} (h : zch k f l = true) : ∀ a, l[a]? = some k → f (l.drop a) = true := by
  induction l with
  | nil => intro a ha; simp at ha
  | cons x l ih =>
    unfold zch at h
    rw [Bool.and_eq_true] at h
    intro a ha
    cases a with
    | zero =>
      simp at ha
      subst ha
      simpa using h.1
    | succ a =>
      rw [List.drop_succ_cons]
      exact ih h.2 a (by simpa using ha)
theorem zk_at {a t n x : Nat} (h : zk a = (t, n, x)) (ht : t < 9) : zKT[a]? = some (t, n, x) := by
  have hl := zk_lt h ht
  have hlen : zKT.length = 735 := by decide +kernel
  have hl' : a < zKT.length := by rw [hlen]; exact hl
  rw [List.getElem?_eq_getElem hl']
  unfold zk at h
  rw [List.getD_eq_getElem?_getD, List.getElem?_eq_getElem hl'] at h
  exact congrArg some h
theorem zk_off {a off t n x : Nat} {v : Nat × Nat × Nat} (h : zk a = (t, n, x)) (ht : t < 9) (hc : zch (t, n, x) (fun l => l.getD off (9, 0, 0) == v) zKT = true) : zk (a + off) = v := by
  have h1 := zch_ok hc a (zk_at h ht)
  have h2 := eq_of_beq h1
  unfold zk
  rw [← h2, List.getD_eq_getElem?_getD, List.getD_eq_getElem?_getD, List.getElem?_drop]
theorem zk_el {a c s i t n x : Nat} {v : Nat × Nat × Nat} (h : zk a = (t, n, x)) (ht : t < 9) (hi : i < n) (hc : zch (t, n, x) (fun l => (List.range n).all fun i => l.getD (c + s * i) (9, 0, 0) == v) zKT = true) : zk (a + c + s * i) = v := by
  have h1 := zch_ok hc a (zk_at h ht)
  have h2 := eq_of_beq (List.all_eq_true.mp h1 i (List.mem_range.mpr hi))
  unfold zk
  rw [← h2, List.getD_eq_getElem?_getD, List.getD_eq_getElem?_getD, List.getElem?_drop, Nat.add_assoc]
theorem zs_Na_digits {a : Nat} (h : zk a = (0, 3, 0)) : zk (a + 1) = (1, 32, 0) := zk_off h (by decide) (by decide +kernel)
theorem zs_Fr_top {a : Nat} (h : zk a = (0, 4, 0)) : zk (a + 1) = (0, 3, 0) := zk_off h (by decide) (by decide +kernel)
theorem zs_Fr_below {a : Nat} (h : zk a = (0, 4, 0)) : zk (a + 3) = (0, 3, 0) := zk_off h (by decide) (by decide +kernel)
theorem zs_Pr_begin {a : Nat} (h : zk a = (0, 5, 0)) : zk (a + 1) = (1, 24, 0) := zk_off h (by decide) (by decide +kernel)
theorem zs_Pr_end {a : Nat} (h : zk a = (0, 5, 0)) : zk (a + 2) = (1, 24, 0) := zk_off h (by decide) (by decide +kernel)
theorem zs_Pr_rate {a : Nat} (h : zk a = (0, 5, 0)) : zk (a + 3) = (5, 24, 0) := zk_off h (by decide) (by decide +kernel)
theorem zs_Pr_done {a : Nat} (h : zk a = (0, 5, 0)) : zk (a + 4) = (5, 12, 1) := zk_off h (by decide) (by decide +kernel)
theorem zs_Pr_worker {a : Nat} (h : zk a = (0, 5, 0)) : zk (a + 5) = (1, 200, 0) := zk_off h (by decide) (by decide +kernel)
theorem zs_Pr_cost {a : Nat} (h : zk a = (0, 5, 0)) : zk (a + 6) = (0, 4, 0) := zk_off h (by decide) (by decide +kernel)
theorem ze_0 {a : Nat} {i : Nat} (h : zk a = (5, 24, 0)) (hi : i < 24) : zk (a + 8 + 5 * i) = (0, 4, 0) := zk_el h (by decide) hi (by decide +kernel)
theorem ze_1 {a : Nat} {i : Nat} (h : zk a = (5, 12, 1)) (hi : i < 12) : zk (a + 127 + 5 * i) = (0, 4, 0) := zk_el h (by decide) hi (by decide +kernel)
theorem ze_2 {a : Nat} {i : Nat} (h : zk a = (5, 24, 2)) (hi : i < 24) : zk (a + 1 + 2 * i) = (0, 3, 0) := zk_el h (by decide) hi (by decide +kernel)
theorem ze_3 {a : Nat} {i : Nat} (h : zk a = (5, 12, 3)) (hi : i < 12) : zk (a + 10 + 5 * i) = (0, 4, 0) := zk_el h (by decide) hi (by decide +kernel)
theorem ze_4 {a : Nat} {i : Nat} (h : zk a = (5, 12, 4)) (hi : i < 12) : zk (a + 18 + 2 * i) = (0, 3, 0) := zk_el h (by decide) hi (by decide +kernel)
theorem ze_5 {a : Nat} {i : Nat} (h : zk a = (5, 12, 5)) (hi : i < 12) : zk (a + 7 + 10 * i) = (0, 4, 0) := zk_el h (by decide) hi (by decide +kernel)
theorem ze_6 {a : Nat} {i : Nat} (h : zk a = (5, 12, 6)) (hi : i < 12) : zk (a + 11 + 10 * i) = (0, 4, 0) := zk_el h (by decide) hi (by decide +kernel)
