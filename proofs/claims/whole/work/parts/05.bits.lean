/-! rules: bits, conversions, doubles, constants -/
theorem ipow_le {n m : Nat} (h : n ≤ m) : (2 : Int) ^ n ≤ 2 ^ m := by
  have := Nat.pow_le_pow_right (n := 2) (by decide) h
  exact_mod_cast this
theorem i32_mask (x : Int) {m : Int} (k : Nat) (hm : (Int32.ofInt m).toBitVec.toNat = 2 ^ k - 1) (hk : k ≤ 31) : Int32.ofInt x &&& Int32.ofInt m = Int32.ofInt (x % 2 ^ k) := by
  apply Int32.toBitVec_inj.mp
  apply BitVec.eq_of_toNat_eq
  rw [Int32.toBitVec_and, BitVec.toNat_and, hm, Nat.and_two_pow_sub_one_eq_mod]
  show (BitVec.ofInt 32 x).toNat % 2 ^ k = (BitVec.ofInt 32 (x % 2 ^ k)).toNat
  rw [BitVec.toNat_ofInt, BitVec.toNat_ofInt]
  have hd : ((2 : Int) ^ k) ∣ ((2 ^ 32 : Nat) : Int) := by
    refine ⟨2 ^ (32 - k), ?_⟩
    rw [← Int.pow_add, show k + (32 - k) = 32 by omega]; rfl
  have h1 : 0 ≤ x % ((2 ^ 32 : Nat) : Int) := Int.emod_nonneg _ (by decide)
  have hp : (0 : Int) < 2 ^ k := Int.pow_pos (by decide)
  have h2 : 0 ≤ x % 2 ^ k := Int.emod_nonneg _ (by omega)
  have h3 : x % 2 ^ k < 2 ^ k := Int.emod_lt_of_pos _ hp
  have h4 : (2 : Int) ^ k ≤ ((2 ^ 32 : Nat) : Int) := Int.le_of_dvd (by decide) hd
  rw [Int.emod_eq_of_lt h2 (by omega)]
  apply Int.ofNat_inj.mp
  show ((((x % ((2 ^ 32 : Nat) : Int)).toNat % 2 ^ k : Nat)) : Int) = _
  rw [Int.natCast_emod, Int.toNat_of_nonneg h1, Int.toNat_of_nonneg h2]
  show x % ((2 ^ 32 : Nat) : Int) % ((2 ^ k : Nat) : Int) = _
  rw [Int.natCast_pow]
  exact Int.emod_emod_of_dvd x hd
theorem i64_mask (x : Int) {m : Int} (k : Nat) (hm : (Int64.ofInt m).toBitVec.toNat = 2 ^ k - 1) (hk : k ≤ 63) : Int64.ofInt x &&& Int64.ofInt m = Int64.ofInt (x % 2 ^ k) := by
  apply Int64.toBitVec_inj.mp
  apply BitVec.eq_of_toNat_eq
  rw [Int64.toBitVec_and, BitVec.toNat_and, hm, Nat.and_two_pow_sub_one_eq_mod]
  show (BitVec.ofInt 64 x).toNat % 2 ^ k = (BitVec.ofInt 64 (x % 2 ^ k)).toNat
  rw [BitVec.toNat_ofInt, BitVec.toNat_ofInt]
  have hd : ((2 : Int) ^ k) ∣ ((2 ^ 64 : Nat) : Int) := by
    refine ⟨2 ^ (64 - k), ?_⟩
    rw [← Int.pow_add, show k + (64 - k) = 64 by omega]; rfl
  have h1 : 0 ≤ x % ((2 ^ 64 : Nat) : Int) := Int.emod_nonneg _ (by decide)
  have hp : (0 : Int) < 2 ^ k := Int.pow_pos (by decide)
  have h2 : 0 ≤ x % 2 ^ k := Int.emod_nonneg _ (by omega)
  have h3 : x % 2 ^ k < 2 ^ k := Int.emod_lt_of_pos _ hp
  have h4 : (2 : Int) ^ k ≤ ((2 ^ 64 : Nat) : Int) := Int.le_of_dvd (by decide) hd
  rw [Int.emod_eq_of_lt h2 (by omega)]
  apply Int.ofNat_inj.mp
  show ((((x % ((2 ^ 64 : Nat) : Int)).toNat % 2 ^ k : Nat)) : Int) = _
  rw [Int.natCast_emod, Int.toNat_of_nonneg h1, Int.toNat_of_nonneg h2]
  show x % ((2 ^ 64 : Nat) : Int) % ((2 ^ k : Nat) : Int) = _
  rw [Int.natCast_pow]
  exact Int.emod_emod_of_dvd x hd
theorem i64_nat {x : Int} (h : 0 ≤ x ∧ x ≤ 9223372036854775807) : (Int64.ofInt x).toBitVec.toNat = x.toNat := by
  show (BitVec.ofInt 64 x).toNat = _
  rw [BitVec.toNat_ofInt, Int.emod_eq_of_lt h.1 (by show x < 18446744073709551616; omega)]
theorem i32_nat {x : Int} (h : 0 ≤ x ∧ x ≤ 2147483647) : (Int32.ofInt x).toBitVec.toNat = x.toNat := by
  show (BitVec.ofInt 32 x).toNat = _
  rw [BitVec.toNat_ofInt, Int.emod_eq_of_lt h.1 (by show x < 4294967296; omega)]
def zdis (x y : Int) : Prop := 0 ≤ x ∧ 0 ≤ y ∧ ∃ k : Nat, (x % 2 ^ k = 0 ∧ y < 2 ^ k) ∨ (y % 2 ^ k = 0 ∧ x < 2 ^ k)
theorem zdis_or {x y : Int} (h : zdis x y) : ((x.toNat ||| y.toNat : Nat) : Int) = x + y := by
  obtain ⟨hx, hy, k, h⟩ := h
  have key : ∀ {u v : Int}, 0 ≤ u → 0 ≤ v → u % 2 ^ k = 0 → v < 2 ^ k → ((u.toNat ||| v.toNat : Nat) : Int) = u + v := by
    intro u v hu hv h1 h2
    have e : u = 2 ^ k * (u / 2 ^ k) := by have := Int.mul_ediv_add_emod u (2 ^ k); omega
    have hp : (0 : Int) < 2 ^ k := Int.pow_pos (by decide)
    have h3 : 0 ≤ u / 2 ^ k := Int.ediv_nonneg hu (by omega)
    have e2 : u.toNat = 2 ^ k * (u / 2 ^ k).toNat := by
      apply Int.ofNat_inj.mp
      rw [Int.toNat_of_nonneg hu, Int.natCast_mul, Int.natCast_pow, Int.toNat_of_nonneg h3]
      exact e
    have h4 : v.toNat < 2 ^ k := by
      apply Int.ofNat_lt.mp
      rw [Int.toNat_of_nonneg hv, Int.natCast_pow]
      exact h2
    rw [e2, ← Nat.two_pow_add_eq_or_of_lt h4, ← e2]
    omega
  rcases h with ⟨h1, h2⟩ | ⟨h1, h2⟩
  · exact key hx hy h1 h2
  · rw [Nat.or_comm, key hy hx h1 h2, Int.add_comm]
theorem i64_or {x y : Int} (h : zdis x y) (hx : R64 x) (hy : R64 y) (hz : R64 (x + y)) : Int64.ofInt x ||| Int64.ofInt y = Int64.ofInt (x + y) := by
  have h0 := h.1
  have h1 := h.2.1
  apply Int64.toBitVec_inj.mp
  apply BitVec.eq_of_toNat_eq
  rw [Int64.toBitVec_or, BitVec.toNat_or, i64_nat ⟨h0, hx.2⟩, i64_nat ⟨h1, hy.2⟩, i64_nat ⟨by omega, hz.2⟩]
  apply Int.ofNat_inj.mp
  rw [zdis_or h]
  omega
theorem i32_or {x y : Int} (h : zdis x y) (hx : R32 x) (hy : R32 y) (hz : R32 (x + y)) : Int32.ofInt x ||| Int32.ofInt y = Int32.ofInt (x + y) := by
  have h0 := h.1
  have h1 := h.2.1
  apply Int32.toBitVec_inj.mp
  apply BitVec.eq_of_toNat_eq
  rw [Int32.toBitVec_or, BitVec.toNat_or, i32_nat ⟨h0, hx.2⟩, i32_nat ⟨h1, hy.2⟩, i32_nat ⟨by omega, hz.2⟩]
  apply Int.ofNat_inj.mp
  rw [zdis_or h]
  omega
theorem zsh64 : ∀ n, n < 64 → ((((Int32.ofInt (n : Nat)).toInt64 &&& 63).toBitVec).smod 64).toNat = n := by decide +kernel
theorem zsh32 : ∀ n, n < 32 → (((Int32.ofInt (n : Nat) &&& 31).toBitVec).smod 32).toNat = n := by decide +kernel
theorem mulmod (x p M : Int) : x % M * p % M = x * p % M := by
  rw [Int.mul_emod, Int.emod_emod_of_dvd _ (Int.dvd_refl M), ← Int.mul_emod]
theorem i64_shl (x : Int) {s : Int} (hs : 0 ≤ s ∧ s < 64) : Int64.ofInt x <<< ((Int32.ofInt s).toInt64 &&& 63) = Int64.ofInt (x * 2 ^ s.toNat) := by
  have e := zsh64 s.toNat (by omega)
  rw [Int.toNat_of_nonneg hs.1] at e
  apply Int64.toBitVec_inj.mp
  show (BitVec.ofInt 64 x) <<< ((((Int32.ofInt s).toInt64 &&& 63).toBitVec).smod 64).toNat = BitVec.ofInt 64 (x * 2 ^ s.toNat)
  rw [e]
  apply BitVec.eq_of_toNat_eq
  rw [BitVec.toNat_shiftLeft, Nat.shiftLeft_eq, BitVec.toNat_ofInt, BitVec.toNat_ofInt]
  apply Int.ofNat_inj.mp
  have h1 : 0 ≤ x % ((2 ^ 64 : Nat) : Int) := Int.emod_nonneg _ (by decide)
  have h2 : 0 ≤ (x * 2 ^ s.toNat) % ((2 ^ 64 : Nat) : Int) := Int.emod_nonneg _ (by decide)
  rw [Int.natCast_emod, Int.natCast_mul, Int.toNat_of_nonneg h1, Int.toNat_of_nonneg h2, Int.natCast_pow]
  exact mulmod x (2 ^ s.toNat) _
theorem i32_shl (x : Int) {s : Int} (hs : 0 ≤ s ∧ s < 32) : Int32.ofInt x <<< (Int32.ofInt s &&& 31) = Int32.ofInt (x * 2 ^ s.toNat) := by
  have e := zsh32 s.toNat (by omega)
  rw [Int.toNat_of_nonneg hs.1] at e
  apply Int32.toBitVec_inj.mp
  show (BitVec.ofInt 32 x) <<< (((Int32.ofInt s &&& 31).toBitVec).smod 32).toNat = BitVec.ofInt 32 (x * 2 ^ s.toNat)
  rw [e]
  apply BitVec.eq_of_toNat_eq
  rw [BitVec.toNat_shiftLeft, Nat.shiftLeft_eq, BitVec.toNat_ofInt, BitVec.toNat_ofInt]
  apply Int.ofNat_inj.mp
  have h1 : 0 ≤ x % ((2 ^ 32 : Nat) : Int) := Int.emod_nonneg _ (by decide)
  have h2 : 0 ≤ (x * 2 ^ s.toNat) % ((2 ^ 32 : Nat) : Int) := Int.emod_nonneg _ (by decide)
  rw [Int.natCast_emod, Int.natCast_mul, Int.toNat_of_nonneg h1, Int.toNat_of_nonneg h2, Int.natCast_pow]
  exact mulmod x (2 ^ s.toNat) _
theorem ediv_R {x M : Int} (n : Nat) (hM : 0 ≤ M) (h : -M ≤ x ∧ x ≤ M) : -M ≤ x / 2 ^ n ∧ x / 2 ^ n ≤ M := by
  have hp : (0 : Int) < 2 ^ n := Int.pow_pos (by decide)
  constructor
  · apply (Int.le_ediv_iff_mul_le hp).mpr
    have : -M * 2 ^ n ≤ -M * 1 := Int.mul_le_mul_of_nonpos_left (by omega) (by omega)
    omega
  · apply Int.le_of_lt_add_one
    apply (Int.ediv_lt_iff_lt_mul hp).mpr
    have : (M + 1) * 1 ≤ (M + 1) * 2 ^ n := Int.mul_le_mul_of_nonneg_left (by omega) (by omega)
    omega
theorem i64_shr {x : Int} (hx : R64 x) {s : Int} (hs : 0 ≤ s ∧ s < 64) : Int64.ofInt x >>> ((Int32.ofInt s).toInt64 &&& 63) = Int64.ofInt (x / 2 ^ s.toNat) := by
  have e := zsh64 s.toNat (by omega)
  rw [Int.toNat_of_nonneg hs.1] at e
  apply Int64.toInt_inj.mp
  have hb := ediv_R s.toNat (M := 9223372036854775808) (x := x) (by decide) (by omega)
  have hb2 : x / 2 ^ s.toNat ≤ 9223372036854775807 := by
    have hp : (0 : Int) < 2 ^ s.toNat := Int.pow_pos (by decide)
    apply Int.le_of_lt_add_one
    apply (Int.ediv_lt_iff_lt_mul hp).mpr
    have : (9223372036854775808 : Int) * 1 ≤ 9223372036854775808 * 2 ^ s.toNat := Int.mul_le_mul_of_nonneg_left (by omega) (by omega)
    omega
  rw [i64_ti (x := x / 2 ^ s.toNat) ⟨by omega, hb2⟩]
  show ((Int64.ofInt x).toBitVec.sshiftRight ((((Int32.ofInt s).toInt64 &&& 63).toBitVec).smod 64).toNat).toInt = _
  rw [e, BitVec.toInt_sshiftRight, Int.shiftRight_eq_div_pow]
  show (Int64.ofInt x).toInt / _ = _
  rw [i64_ti hx]
  first | rfl | rw [Int.natCast_pow]; rfl
theorem i32_shr {x : Int} (hx : R32 x) {s : Int} (hs : 0 ≤ s ∧ s < 32) : Int32.ofInt x >>> (Int32.ofInt s &&& 31) = Int32.ofInt (x / 2 ^ s.toNat) := by
  have e := zsh32 s.toNat (by omega)
  rw [Int.toNat_of_nonneg hs.1] at e
  apply Int32.toInt_inj.mp
  have hb := ediv_R s.toNat (M := 2147483648) (x := x) (by decide) (by omega)
  have hb2 : x / 2 ^ s.toNat ≤ 2147483647 := by
    have hp : (0 : Int) < 2 ^ s.toNat := Int.pow_pos (by decide)
    apply Int.le_of_lt_add_one
    apply (Int.ediv_lt_iff_lt_mul hp).mpr
    have : (2147483648 : Int) * 1 ≤ 2147483648 * 2 ^ s.toNat := Int.mul_le_mul_of_nonneg_left (by omega) (by omega)
    omega
  rw [i32_ti (x := x / 2 ^ s.toNat) ⟨by omega, hb2⟩]
  show ((Int32.ofInt x).toBitVec.sshiftRight (((Int32.ofInt s &&& 31).toBitVec).smod 32).toNat).toInt = _
  rw [e, BitVec.toInt_sshiftRight, Int.shiftRight_eq_div_pow]
  show (Int32.ofInt x).toInt / _ = _
  rw [i32_ti hx]
  first | rfl | rw [Int.natCast_pow]; rfl
def zi2d (x : Int) : Int := ((FP.i2d (Int32.ofInt x)).toNat : Int)
def zl2d (x : Int) : Int := ((FP.l2d (Int64.ofInt x)).toNat : Int)
def zdu (x : Int) : UInt64 := UInt64.ofNat x.toNat
def zdadd (x y : Int) : Int := ((FP.dadd (zdu x) (zdu y)).toNat : Int)
def zdmul (x y : Int) : Int := ((FP.dmul (zdu x) (zdu y)).toNat : Int)
def zddiv (x y : Int) : Int := ((FP.ddiv (zdu x) (zdu y)).toNat : Int)
def zdcmp (op : CmpOp) (x y : Int) : Int := (Op.cmpValue (FP.dcmp (zdu x) (zdu y)) op).toInt
theorem zdu_of (u : UInt64) : zdu ((u.toNat : Nat) : Int) = u := by unfold zdu; rw [Int.toNat_natCast, UInt64.ofNat_toNat]
theorem okD_of (u : UInt64) : 0 ≤ ((u.toNat : Nat) : Int) ∧ ((u.toNat : Nat) : Int) < 18446744073709551616 := by have := u.toNat_lt; omega
section RB
variable {g : GG} {M : MI} {mc ms : Nat} {Q : Option VV → EE → DD → Prop} {pc : Nat} {L st : List VV} {E : EE} {D : DD} {ca sa : Nat}
theorem q_iand {x m : Int} (n : Nat) (d : decode (mC M) pc = .ok (.iand, 1)) (hm : (Int32.ofInt m).toBitVec.toNat = 2 ^ n - 1 ∧ n ≤ 31) (k : Zg g M mc ms Q (pc + 1) L (vI (x % 2 ^ n) :: st) E D ca sa) : Zg g M mc ms Q pc L (vI m :: vI x :: st) E D ca sa := by
  refine zg_pure (fun hx hb kk => lv_iand hx hb d (by rw [i32_mask x n hm.1 hm.2]; exact kk)) (fun h => okI ?_ (ok2 h).2.2) k
  have hp : (0 : Int) < 2 ^ n := Int.pow_pos (by decide)
  have h2 : 0 ≤ x % 2 ^ n := Int.emod_nonneg _ (by omega)
  have h3 : x % 2 ^ n < 2 ^ n := Int.emod_lt_of_pos _ hp
  have h4 : (2 : Int) ^ n ≤ 2 ^ 31 := ipow_le hm.2
  omega
theorem q_land {x m : Int} (n : Nat) (d : decode (mC M) pc = .ok (.land, 1)) (hm : (Int64.ofInt m).toBitVec.toNat = 2 ^ n - 1 ∧ n ≤ 63) (k : Zg g M mc ms Q (pc + 1) L (vL (x % 2 ^ n) :: st) E D ca sa) : Zg g M mc ms Q pc L (vL m :: vL x :: st) E D ca sa := by
  refine zg_pure (fun hx hb kk => lv_land hx hb d (by rw [i64_mask x n hm.1 hm.2]; exact kk)) (fun h => okL ?_ (ok2 h).2.2) k
  have hp : (0 : Int) < 2 ^ n := Int.pow_pos (by decide)
  have h2 : 0 ≤ x % 2 ^ n := Int.emod_nonneg _ (by omega)
  have h3 : x % 2 ^ n < 2 ^ n := Int.emod_lt_of_pos _ hp
  have h4 : (2 : Int) ^ n ≤ 2 ^ 63 := ipow_le hm.2
  omega
theorem q_lor {x y : Int} (d : decode (mC M) pc = .ok (.lor, 1)) (o : zdis x y ∧ R64 (x + y)) (k : Zg g M mc ms Q (pc + 1) L (vL (x + y) :: st) E D ca sa) : Zg g M mc ms Q pc L (vL y :: vL x :: st) E D ca sa :=
  zg_ok fun _ h _ => zg_pure (fun hx hb kk => lv_lor hx hb d (by rw [i64_or o.1 (ok2 h).2.1 (ok2 h).1 o.2]; exact kk)) (fun h => okL o.2 (ok2 h).2.2) k
theorem q_ior {x y : Int} (d : decode (mC M) pc = .ok (.ior, 1)) (o : zdis x y ∧ R32 (x + y)) (k : Zg g M mc ms Q (pc + 1) L (vI (x + y) :: st) E D ca sa) : Zg g M mc ms Q pc L (vI y :: vI x :: st) E D ca sa :=
  zg_ok fun _ h _ => zg_pure (fun hx hb kk => lv_ior hx hb d (by rw [i32_or o.1 (ok2 h).2.1 (ok2 h).1 o.2]; exact kk)) (fun h => okI o.2 (ok2 h).2.2) k
theorem q_lshl {x s : Int} (d : decode (mC M) pc = .ok (.lshl, 1)) (o : (0 ≤ s ∧ s < 64) ∧ R64 (x * 2 ^ s.toNat)) (k : Zg g M mc ms Q (pc + 1) L (vL (x * 2 ^ s.toNat) :: st) E D ca sa) : Zg g M mc ms Q pc L (vI s :: vL x :: st) E D ca sa :=
  zg_pure (fun hx hb kk => lv_lshl hx hb d (i64_shl x o.1) kk) (fun h => okL o.2 (ok2 h).2.2) k
theorem q_ishl {x s : Int} (d : decode (mC M) pc = .ok (.ishl, 1)) (o : (0 ≤ s ∧ s < 32) ∧ R32 (x * 2 ^ s.toNat)) (k : Zg g M mc ms Q (pc + 1) L (vI (x * 2 ^ s.toNat) :: st) E D ca sa) : Zg g M mc ms Q pc L (vI s :: vI x :: st) E D ca sa :=
  zg_pure (fun hx hb kk => lv_ishl hx hb d (by rw [i32_shl x o.1]; exact kk)) (fun h => okI o.2 (ok2 h).2.2) k
theorem q_lshr {x s : Int} (d : decode (mC M) pc = .ok (.lshr, 1)) (o : 0 ≤ s ∧ s < 64) (k : Zg g M mc ms Q (pc + 1) L (vL (x / 2 ^ s.toNat) :: st) E D ca sa) : Zg g M mc ms Q pc L (vI s :: vL x :: st) E D ca sa :=
  zg_ok fun _ h _ => by
    have hr : R64 x := (ok2 h).2.1
    refine zg_pure (fun hx hb kk => lv_lshr hx hb d (i64_shr hr o) kk) (fun h => okL ?_ (ok2 h).2.2) k
    have hb := ediv_R s.toNat (M := 9223372036854775808) (x := x) (by decide) (by omega)
    have hp : (0 : Int) < 2 ^ s.toNat := Int.pow_pos (by decide)
    refine ⟨by omega, Int.le_of_lt_add_one ((Int.ediv_lt_iff_lt_mul hp).mpr ?_)⟩
    have : (9223372036854775808 : Int) * 1 ≤ 9223372036854775808 * 2 ^ s.toNat := Int.mul_le_mul_of_nonneg_left (by omega) (by omega)
    omega
theorem q_ishr {x s : Int} (d : decode (mC M) pc = .ok (.ishr, 1)) (o : 0 ≤ s ∧ s < 32) (k : Zg g M mc ms Q (pc + 1) L (vI (x / 2 ^ s.toNat) :: st) E D ca sa) : Zg g M mc ms Q pc L (vI s :: vI x :: st) E D ca sa :=
  zg_ok fun _ h _ => by
    have hr : R32 x := (ok2 h).2.1
    refine zg_pure (fun hx hb kk => lv_ishr hx hb d (by rw [i32_shr hr o]; exact kk)) (fun h => okI ?_ (ok2 h).2.2) k
    have hb := ediv_R s.toNat (M := 2147483648) (x := x) (by decide) (by omega)
    have hp : (0 : Int) < 2 ^ s.toNat := Int.pow_pos (by decide)
    refine ⟨by omega, Int.le_of_lt_add_one ((Int.ediv_lt_iff_lt_mul hp).mpr ?_)⟩
    have : (2147483648 : Int) * 1 ≤ 2147483648 * 2 ^ s.toNat := Int.mul_le_mul_of_nonneg_left (by omega) (by omega)
    omega
theorem q_i2l {x : Int} (d : decode (mC M) pc = .ok (.i2l, 1)) (k : Zg g M mc ms Q (pc + 1) L (vL x :: st) E D ca sa) : Zg g M mc ms Q pc L (vI x :: st) E D ca sa :=
  zg_ok fun _ h _ => by
    have hr : R32 x := (ok1 h).1
    exact zg_pure (fun hx hb kk => lv_i2l hx hb d (Int32.toInt64_ofInt (by show (-2147483648 : Int) ≤ x; omega) (by show x ≤ (2147483647 : Int); omega)) kk) (fun h => okL (by omega) (ok1 h).2) k
theorem q_l2i {x : Int} (d : decode (mC M) pc = .ok (.l2i, 1)) (o : R32 x) (k : Zg g M mc ms Q (pc + 1) L (vI x :: st) E D ca sa) : Zg g M mc ms Q pc L (vL x :: st) E D ca sa :=
  zg_pure (fun hx hb kk => lv_l2i hx hb d Int64.toInt32_ofInt kk) (fun h => okI o (ok1 h).2) k
theorem q_i2c {x : Int} (d : decode (mC M) pc = .ok (.i2c, 1)) (o : 0 ≤ x ∧ x < 65536) (k : Zg g M mc ms Q (pc + 1) L (vI x :: st) E D ca sa) : Zg g M mc ms Q pc L (vI x :: st) E D ca sa := by
  have e : ((Int32.ofInt x).toUInt32 % 65536).toInt32 = Int32.ofInt x := by
    rw [pk_char, i32_nat (by omega), Nat.mod_eq_of_lt (by omega)]
    show Int32.ofNat x.toNat = _
    rw [← Int32.ofInt_eq_ofNat, Int.toNat_of_nonneg o.1]
  exact zg_pure (fun hx hb kk => lv_i2c hx hb d e kk) (fun h => h) k
theorem q_i2d {x : Int} (d : decode (mC M) pc = .ok (.i2d, 1)) (k : Zg g M mc ms Q (pc + 1) L (vD (zi2d x) :: st) E D ca sa) : Zg g M mc ms Q pc L (vI x :: st) E D ca sa :=
  zg_pure (fun hx hb kk => lv_i2d hx hb d (by rw [show FP.i2d (Int32.ofInt x) = zdu (zi2d x) from (zdu_of _).symm]; exact kk)) (fun h => okc (v := vD (zi2d x)) (okD_of _) (ok1 h).2) k
theorem q_l2d {x : Int} (d : decode (mC M) pc = .ok (.l2d, 1)) (k : Zg g M mc ms Q (pc + 1) L (vD (zl2d x) :: st) E D ca sa) : Zg g M mc ms Q pc L (vL x :: st) E D ca sa :=
  zg_pure (fun hx hb kk => lv_l2d hx hb d (by rw [show FP.l2d (Int64.ofInt x) = zdu (zl2d x) from (zdu_of _).symm]; exact kk)) (fun h => okc (v := vD (zl2d x)) (okD_of _) (ok1 h).2) k
theorem q_dadd {x y : Int} (d : decode (mC M) pc = .ok (.dadd, 1)) (o : vf_n64 (FP.dadd (zdu x) (zdu y))) (k : Zg g M mc ms Q (pc + 1) L (vD (zdadd x y) :: st) E D ca sa) : Zg g M mc ms Q pc L (vD y :: vD x :: st) E D ca sa :=
  zg_pure (fun hx hb kk => lv_dadd hx hb d o (by rw [show FP.dadd (UInt64.ofNat x.toNat) (UInt64.ofNat y.toNat) = zdu (zdadd x y) from (zdu_of _).symm]; exact kk)) (fun h => okc (v := vD (zdadd x y)) (okD_of _) (ok2 h).2.2) k
theorem q_dmul {x y : Int} (d : decode (mC M) pc = .ok (.dmul, 1)) (o : vf_n64 (FP.dmul (zdu x) (zdu y))) (k : Zg g M mc ms Q (pc + 1) L (vD (zdmul x y) :: st) E D ca sa) : Zg g M mc ms Q pc L (vD y :: vD x :: st) E D ca sa :=
  zg_pure (fun hx hb kk => lv_dmul hx hb d o (by rw [show FP.dmul (UInt64.ofNat x.toNat) (UInt64.ofNat y.toNat) = zdu (zdmul x y) from (zdu_of _).symm]; exact kk)) (fun h => okc (v := vD (zdmul x y)) (okD_of _) (ok2 h).2.2) k
theorem q_ddiv {x y : Int} (d : decode (mC M) pc = .ok (.ddiv, 1)) (o : vf_n64 (FP.ddiv (zdu x) (zdu y))) (k : Zg g M mc ms Q (pc + 1) L (vD (zddiv x y) :: st) E D ca sa) : Zg g M mc ms Q pc L (vD y :: vD x :: st) E D ca sa :=
  zg_pure (fun hx hb kk => lv_ddiv hx hb d o (by rw [show FP.ddiv (UInt64.ofNat x.toNat) (UInt64.ofNat y.toNat) = zdu (zddiv x y) from (zdu_of _).symm]; exact kk)) (fun h => okc (v := vD (zddiv x y)) (okD_of _) (ok2 h).2.2) k
theorem q_dcmp {x y : Int} {op : CmpOp} (d : decode (mC M) pc = .ok (.dcmp op, 1)) (k : Zg g M mc ms Q (pc + 1) L (vI (zdcmp op x y) :: st) E D ca sa) : Zg g M mc ms Q pc L (vD y :: vD x :: st) E D ca sa := by
  refine zg_pure (fun hx hb kk => lv_dcmp hx hb d (by rw [show Op.cmpValue (FP.dcmp (UInt64.ofNat x.toNat) (UInt64.ofNat y.toNat)) op = Int32.ofInt (zdcmp op x y) from (Int32.ofInt_toInt _).symm]; exact kk)) (fun h => okI ?_ (ok2 h).2.2) k
  have h1 := (Op.cmpValue (FP.dcmp (zdu x) (zdu y)) op).le_toInt
  have h2 := (Op.cmpValue (FP.dcmp (zdu x) (zdu y)) op).toInt_lt
  unfold zdcmp
  omega
theorem q_dconst0 (d : decode (mC M) pc = .ok (.dconst 0, 1)) (k : Zg g M mc ms Q (pc + 1) L (vD 0 :: st) E D ca sa) : Zg g M mc ms Q pc L st E D ca sa :=
  zg_pure (fun hx hb kk => lv_dconst0 hx hb d kk) (fun h => okc (v := vD 0) (show (0 : Int) ≤ 0 ∧ (0 : Int) < 18446744073709551616 by decide) h) k
theorem q_ldc {i : Nat} {x : Int} (hl : Cond.constant (mY M).cls i (Int32.ofInt x) ∈ zT) (d : decode (mC M) pc = .ok (.ldc i, 2)) (o : R32 x) (k : Zg g M mc ms Q (pc + 2) L (vI x :: st) E D ca sa) : Zg g M mc ms Q pc L st E D ca sa := by
  intro p l e R s m args below meth c C hR H locs ls hH hS hl' hL hs
  exact lv_ldc C.1 C.2.1 C.2.2.2.2.1 (C.2.2.2.2.2.1 _ hl) d (k p l e R s m args below meth c C hR H locs ls hH hS hl' hL (okI o hs))
theorem q_ldc2 {i : Nat} {x : Int} (hl : Cond.constantLong (mY M).cls i (Int64.ofInt x) ∈ zT) (d : decode (mC M) pc = .ok (.ldc2_w i, 3)) (o : R64 x) (k : Zg g M mc ms Q (pc + 3) L (vL x :: st) E D ca sa) : Zg g M mc ms Q pc L st E D ca sa := by
  intro p l e R s m args below meth c C hR H locs ls hH hS hl' hL hs
  exact lv_ldc2 C.1 C.2.1 C.2.2.2.2.1 (C.2.2.2.2.2.1 _ hl) d (k p l e R s m args below meth c C hR H locs ls hH hS hl' hL (okL o hs))
theorem q_ldc2d {i : Nat} {x : Int} (hl : Cond.constantDouble (mY M).cls i (zdu x) ∈ zT) (d : decode (mC M) pc = .ok (.ldc2_w i, 3)) (o : 0 ≤ x ∧ x < 18446744073709551616) (k : Zg g M mc ms Q (pc + 3) L (vD x :: st) E D ca sa) : Zg g M mc ms Q pc L st E D ca sa := by
  intro p l e R s m args below meth c C hR H locs ls hH hS hl' hL hs
  exact lv_ldc2d C.1 C.2.1 C.2.2.2.2.1 (C.2.2.2.2.2.1 _ hl) d (k p l e R s m args below meth c C hR H locs ls hH hS hl' hL (okc (v := vD x) o hs))
end RB
