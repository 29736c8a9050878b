/-! arrays of references made and filled -/
section ELT
variable {g : GG} {M M' : MI} {mc ms mc' ms' : Nat} {Q Q' : Option VV → EE → DD → Prop} {pc : Nat} {L st : List VV} {E E0 E' : EE} {D : DD} {ca sa : Nat} {F : Nat → Bool} {X : Nat → Nat → Bool}
theorem updX_o {r j i k : Nat} (h : i ≠ r) : updX X r j i k = X i k := if_neg h
theorem updX_i {r j k : Nat} : updX X r j r k = decide (k < j) := if_pos rfl
theorem q_fldR {ci k N index index2 off a N0 n t k0 : Nat} {x : Int} {C Ce : String} {T : u_T} (hC : Ce = "SpeedKernel$Natural" ∨ Ce = "SpeedKernel$Fraction") (hcl : Cond.classLink (mY M).cls index2 Ce ∈ zT) (hta : (ztys g)[k0]? = some (gA g (zra t).1, .object Ce)) (hn : zk N0 = (5, n, t)) (hx : ¬ Int32.ofInt x < 0 ∧ (Int32.ofInt x).toNatClampNeg = n ∧ n * 4 ≤ 536870912) (d0 : decode (mC M) pc = .ok (.anewarray index2, 3)) (hz : ∀ i j, N0 ≤ i → D i j = 0) (hcs : ca + 1 ≤ mc ∧ sa + n ≤ ms)
    (hc : ZC ci C T N) (hl : Cond.fieldLink (mY M).cls index (T k).1 (T k).2.1 (T k).2.2.1 ∈ zT) (hk : k < N ∧ zft ci k = (2, off) ∧ (T k).2.2.2 = true) (hi : (mY M).name = "<init>") (hdecl : (T k).1 = (mY M).cls) (hd : parseFieldDescriptor (T k).2.2.1 = some (.array (.object Ce)))
    (d : decode (mC M) (pc + 3) = .ok (.putfield index, 3)) (ha : zk a = (0, ci, 0)) (hE : E0.2.2) (haN : a < N0) (hb : N0 = a + off)
    (kk : Zg g M mc ms Q (pc + 3 + 3) L st (eC E0 a (N0 + 1) (updF F k) (updX X N0 0)) D (ca + 1) (sa + n)) : Zg g M mc ms Q pc L (vI x :: vR a :: st) (eC E0 a N0 F X) D ca sa := by
  refine q_newref (E := eC E0 a N0 F X) hC hcl hta hn (fun k => eC_out ⟨haN, Nat.le_refl _⟩) hx d0 hE (fun j => hz _ j (Nat.le_refl _)) hcs ?_
  refine q_fld (N0 := N0) (s := 1) (F := F) (X := updX X N0 0) hc hl hk hi hdecl hd (fun _ => rfl) (fun _ => rfl) d ha hE haN rfl hE (fun i j h => ?_) (fun i j h1 h2 hr => ?_) hb kk
  · show (eC E0 a N0 F X).1 i j = _
    rcases (show i < a ∨ i = a ∨ a < i by omega) with y | y | y
    · rw [eC_lo y, eC_lo y]
    · subst y; rw [eC_at, eC_at]
    · rw [eC_in ⟨y, h⟩, eC_in ⟨y, h⟩, updX_o (by omega)]
  · show (eC E0 a N0 F X).1 i j = _
    have e : i = N0 := by omega
    rw [eC_out ⟨haN, h1⟩, e, updX_i]
    exact (decide_eq_false (by omega)).symm
/-- one element more -/
theorem q_elt {n t r j ci N a s x k0 : Nat} {rc : vw_C} (hc : zcl[ci]? = some rc) (hta : (ztys g)[k0]? = some (gA g (zra t).1, .object rc.1)) (d : decode (mC M) pc = .ok (.aastore, 1)) (hr : zk r = (5, n, t)) (hrN : a < r ∧ r < N) (hb : zk N = (0, ci, x)) (hs : 0 < s) (hbe : N = r + (zra t).2.1 + (zra t).2.2 * j) (hj : j < n ∧ n ≤ 1000) (hE : E0.2.2)
    (hX : ∀ i k, N ≤ i → i < N + s → rp i k → X i k = true)
    (kk : Zg g M mc ms Q (pc + 1) L st (eC E0 a (N + s) F (updX X r (j + 1))) D ca sa) : Zg g M mc ms Q pc L (vR N :: vI j :: vR r :: st) (eB (eP (eC E0 a N F (updX X r j))) N s) D ca sa := by
  refine q_aast hc hta d hr (by show r < N + s; omega) hb (by show N < N + s; omega) hbe hj ?_
  refine q_env (fun H hH => hp_env (E' := eC E0 a (N + s) F (updX X r (j + 1))) hH rfl (fun _ => hE) fun i hi k hp => ?_) kk
  have hi' : i < N + s := hi
  rcases (show i < a ∨ i = a ∨ (a < i ∧ i < N) ∨ N ≤ i by omega) with y | y | y | y
  · rw [eC_lo y, eS_o (by omega), eB_lo (by omega)]
    exact (eC_lo y).symm
  · subst y
    rw [eC_at, eS_o (by omega), eB_lo (by omega)]
    exact eC_at.symm
  · rw [eC_in ⟨y.1, hi'⟩]
    by_cases z : i = r
    · subst z
      rw [updX_i]
      by_cases w : k = j
      · subst w
        rw [eS_i]; exact decide_eq_true (by omega)
      · rw [eS_o (Or.inr w), eB_lo y.2]
        show _ = (eC E0 a N F (updX X i j)).1 i k
        rw [eC_in y, updX_i]
        by_cases v : k < j
        · rw [decide_eq_true v]; exact decide_eq_true (by omega)
        · rw [decide_eq_false v]; exact decide_eq_false (by omega)
    · rw [updX_o z, eS_o (Or.inl z), eB_lo y.2]
      show _ = (eC E0 a N F (updX X r j)).1 i k
      rw [eC_in y, updX_o z]
  · rw [eC_in ⟨by omega, hi'⟩, updX_o (by omega), eS_o (by omega), eB_in ⟨y, hi'⟩, hX i k y hi' hp]
end ELT
