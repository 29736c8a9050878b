/-! the Natural: divideBy -/
/-- what a division of a leaves, with its quotient c and the spare row d -/
def F3 (D D' : DD) (a c d : Nat) : Prop := ∀ q, q ≠ a → q ≠ a + 1 → q ≠ c → q ≠ c + 1 → q ≠ d → q ≠ d + 1 → D' q = D q
theorem F3.rf {D : DD} {a c d : Nat} : F3 D D a c d := fun _ _ _ _ _ _ _ => rfl
theorem F3.tr {D D' D'' : DD} {a c d : Nat} (h : F3 D D' a c d) (h' : F3 D' D'' a c d) : F3 D D'' a c d := fun q h1 h2 h3 h4 h5 h6 => (h' q h1 h2 h3 h4 h5 h6).trans (h q h1 h2 h3 h4 h5 h6)
theorem F3.a {D D' : DD} {a c d : Nat} (h : Fa D D' a) : F3 D D' a c d := fun q h1 h2 _ _ _ _ => h q h1 h2
theorem F3.c {D D' : DD} {a c d : Nat} (h : Fa D D' c) : F3 D D' a c d := fun q _ _ h1 h2 _ _ => h q h1 h2
theorem F3.d {D D' : DD} {a c d : Nat} (h : Fa D D' d) : F3 D D' a c d := fun q _ _ _ _ h1 h2 => h q h1 h2
theorem wn_wn {f : Int → Int} {x y : Int} : wn (wn f x) y = wn f (x + y) := by
  funext j
  unfold wn
  rw [Int.add_assoc]
theorem wn_0 {f : Int → Int} : wn f 0 = f := by
  funext j
  unfold wn
  rw [Int.zero_add]
theorem wn_upl {f : Int → Int} {x i r : Int} (h : i < x) {n : Int} : Ds (wn (fun j => if j = i then r else f j) x) BB n = Ds (wn f x) BB n := Ds_congr fun j j1 _ => by
  show (if x + j = i then r else f (x + j)) = f (x + j)
  rw [if_neg (by omega)]
theorem Ds_wn1 {f : Int → Int} {x m : Int} (hm : 0 ≤ m) : Ds (wn f x) BB (1 + m) = f x + Ds (wn f (x + 1)) BB m * BB := by
  rw [Ds_wn (by decide) hm, wn_wn]
  have : Ds (wn f x) BB 1 = f x := by
    rw [show (1 : Int) = 0 + 1 from rfl, Ds_s (Int.le_refl 0), Ds_0]
    show 0 + f (x + 0) * BB ^ (0 : Int).toNat = f x
    rw [Int.add_zero]
    have : BB ^ (0 : Int).toNat = 1 := rfl
    rw [this]
    omega
  rw [this]
  rfl
section NA6
variable {g : GG} {D De : DD} {a b c d : Nat} {v w : Int}
theorem div_loop (ka : zk a = (0, 3, 0)) (kc : zk c = (0, 3, 0)) (kd : zk d = (0, 3, 0)) (hca : c ≠ a) (hda : d ≠ a) (hdc : d ≠ c) {s n mo V X0 : Int} {P : DD → Prop} (hn : De d 1 = n) (hn2 : 2 ≤ n) (hs0 : De a 1 = mo + n) (hmo : 0 ≤ mo) (h32 : mo + n < 32) (hdd : Dg (De (d + 1)) BB n) (hnorm : 1073741824 ≤ De (d + 1) (n - 1)) (hV : Ds (De (d + 1)) BB n = V)
    (hk : ∀ (D : DD) (X Qv : Int) (z1 : VV), (D d = De d ∧ D (d + 1) = De (d + 1) ∧ D a = De a ∧ D c = De c) → F3 De D a c d → Dg (D (a + 1)) BB (mo + n + 1) → Ds (D (a + 1)) BB n = X → 0 ≤ X → X < V → Dg (D (c + 1)) BB (mo + 1) → Ds (D (c + 1)) BB (mo + 1) = Qv → X0 = X + V * Qv → Sg g M_Na_divideBy (rV P) 113 [vR a, z1, vR c, vR d, vI s, vI mo, vI (-1)] [] D) :
    ∀ (m : Nat) (i : Int) (D : DD) (X Qv : Int) (z1 : VV), i + 1 = m → i ≤ mo → (D d = De d ∧ D (d + 1) = De (d + 1) ∧ D a = De a ∧ D c = De c) → F3 De D a c d → Dg (D (a + 1)) BB (mo + n + 1) → (∀ j, i + n < j → j ≤ mo + n → D (a + 1) j = 0) → Ds (D (a + 1)) BB (i + n + 1) = X → X < V * BB ^ (i + 1).toNat →
      Dg (wn (D (c + 1)) (i + 1)) BB (mo - i) → Ds (wn (D (c + 1)) (i + 1)) BB (mo - i) = Qv → X0 = X + V * (Qv * BB ^ (i + 1).toNat) → Sg g M_Na_divideBy (rV P) 113 [vR a, z1, vR c, vR d, vI s, vI mo, vI i] [] D := by
  intro m
  induction m with
  | zero =>
    intro i D X Qv z1 hm hi hsame hf hdg hz0 hX hXV hdq hq hX0
    have hi1 : i = -1 := by omega
    subst hi1
    have e1 : (-1 : Int) + n + 1 = n := by omega
    have e2 : mo - (-1) = mo + 1 := by omega
    have e3 : BB ^ ((-1 : Int) + 1).toNat = 1 := rfl
    rw [e1] at hX
    rw [e3] at hXV hX0
    rw [e2] at hdq hq
    rw [show (-1 : Int) + 1 = 0 from rfl, wn_0] at hdq hq
    exact hk D X Qv z1 hsame hf hdg hX (by rw [← hX]; exact Ds_nn BB_pos (hdg.mono (by omega))) (by omega) hdq hq (by rw [Int.mul_one] at hX0; exact hX0)
  | succ m ih =>
    intro i D X Qv z1 hm hi hsame hf hdg hz0 hX hXV hdq hq hX0
    obtain ⟨hd1, hd2, ha1, hc1⟩ := hsame
    have hi0 : 0 ≤ i := by omega
    have hdg2 : Dg (D (a + 1)) BB (i + n + 1) := hdg.mono (by omega)
    have hXe : X = Ds (D (a + 1)) BB i + Ds (wn (D (a + 1)) i) BB (n + 1) * BB ^ i.toNat := by rw [← hX, show i + n + 1 = i + (n + 1) by omega, Ds_wn hi0 (by omega)]
    have hP := pw_pos BB_pos i.toNat
    have hlo := Ds_nn BB_pos (hdg.mono (m := i) (by omega))
    have hlo2 := Ds_lt BB_pos (hdg.mono (m := i) (by omega))
    have hUV : Ds (wn (D (a + 1)) i) BB (n + 1) < BB * V := by
      rw [pw_s BB hi0] at hXV
      rcases Int.lt_or_le (Ds (wn (D (a + 1)) i) BB (n + 1)) (BB * V) with z | z
      · exact z
      · have : BB * V * BB ^ i.toNat ≤ Ds (wn (D (a + 1)) i) BB (n + 1) * BB ^ i.toNat := Int.mul_le_mul_of_nonneg_right z (by omega)
        have e : V * (BB ^ i.toNat * BB) = BB * V * BB ^ i.toNat := by grind
        omega
    refine s_Na_divideBy_113 ka kc kd ⟨fun q => by omega, fun _ => ?_⟩
    refine (take_ok ka kd hda (by rw [hd1]; exact hn) hi0 hn2 (by omega) (by rw [hd2]; exact hdd) (by rw [hd2]; exact hnorm) (by exact hdg2) rfl (by rw [hd2]; exact hV) hUV).mono (fun q D1 h => ?_)
    obtain ⟨hq01, hw, hdgn, R, hR, hUq, hR0, hRV⟩ := h
    have hc2 : D1 (c + 1) = D (c + 1) := hw.1 (c + 1) (fun z => hca (Nat.succ.inj z))
    simp only [BB] at hq01
    refine s_Na_divideBy_131 ka kc kd ⟨⟨by omega, by omega⟩, fun D3 e3 => ⟨by omega, ?_⟩⟩
    have ra : D3 (a + 1) = D1 (a + 1) := by rw [e3, zw_off (fun z => hca (Nat.succ.inj z).symm)]
    have rc : D3 (c + 1) = fun j => if j = i then q else D (c + 1) j := by rw [e3, zw_row, hc2]
    have hVn : V < BB ^ n.toNat := by rw [← hV]; exact Ds_lt BB_pos hdd
    have hdw := Dg_wn hi0 (n := n + 1) (show Dg (D1 (a + 1)) BB (i + (n + 1)) by rw [← Int.add_assoc]; exact hdgn)
    have htop0 : D1 (a + 1) (i + n) = 0 := by
      have hs := Ds_s (f := wn (D1 (a + 1)) i) (b := BB) (x := n) (by omega)
      rw [hR] at hs
      have hnn := Ds_nn BB_pos (hdw.mono (m := n) (by omega))
      have ht := hdw n (by omega) (by omega)
      rcases Int.lt_or_le 0 (wn (D1 (a + 1)) i n) with z | z
      · have : 1 * BB ^ n.toNat ≤ wn (D1 (a + 1)) i n * BB ^ n.toNat := Int.mul_le_mul_of_nonneg_right (by omega) (Int.le_of_lt (pw_pos BB_pos _))
        omega
      · show wn (D1 (a + 1)) i n = 0
        omega
    have hlow : Ds (D1 (a + 1)) BB i = Ds (D (a + 1)) BB i := Ds_congr fun j _ j2 => hw.2 j (Or.inl j2)
    have hXn : Ds (D1 (a + 1)) BB (i + n) = Ds (D (a + 1)) BB i + R * BB ^ i.toNat := by
      have h1 : Ds (D1 (a + 1)) BB (i + n + 1) = Ds (D1 (a + 1)) BB (i + n) := by rw [Ds_s (by omega), htop0]; omega
      rw [← h1, show i + n + 1 = i + (n + 1) by omega, Ds_wn hi0 (by omega), hR, hlow]
    refine ih (i + -1) D3 (Ds (D (a + 1)) BB i + R * BB ^ i.toNat) (q + Qv * BB) _ (by omega) (by omega) ?_ ?_ ?_ ?_ ?_ ?_ ?_ ?_ ?_
    · have hoff : ∀ q', q' ≠ c + 1 → D3 q' = D1 q' := fun q' h => by rw [e3, zw_off h]
      refine ⟨?_, ?_, ?_, ?_⟩
      · rw [hoff d (na_ne kc kd), hw.1 d (na_ne ka kd), hd1]
      · rw [hoff (d + 1) (fun z => hdc (Nat.succ.inj z)), hw.1 (d + 1) (fun z => hda (Nat.succ.inj z)), hd2]
      · rw [hoff a (na_ne kc ka), hw.1 a (a_ne a), ha1]
      · rw [hoff c (a_ne c), hw.1 c (na_ne ka kc), hc1]
    · refine hf.tr (fun q' h1 h2 h3 h4 h5 h6 => ?_)
      rw [e3, zw_off h4]
      exact hw.1 q' h2
    · rw [ra]
      intro j j1 j2
      rcases Int.lt_or_le j (i + n + 1) with z | z
      · exact hdgn j j1 z
      · rw [hw.2 j (Or.inr (by omega))]; exact hdg j j1 j2
    · rw [ra]
      intro j j1 j2
      rcases (show j = i + n ∨ i + n < j by omega) with z | z
      · rw [z]; exact htop0
      · rw [hw.2 j (Or.inr z)]; exact hz0 j z j2
    · rw [ra, show i + -1 + n + 1 = i + n by omega]; exact hXn
    · rw [show i + -1 + 1 = i by omega]
      have : (R + 1) * BB ^ i.toNat ≤ V * BB ^ i.toNat := Int.mul_le_mul_of_nonneg_right (by omega) (by omega)
      rw [Int.add_mul, Int.one_mul] at this
      omega
    · rw [rc, show i + -1 + 1 = i by omega]
      intro j j1 j2
      show 0 ≤ (if i + j = i then q else D (c + 1) (i + j)) ∧ (if i + j = i then q else D (c + 1) (i + j)) < BB
      split
      · simp only [BB]; omega
      · have := hdq (j - 1) (by omega) (by omega)
        unfold wn at this
        rwa [show i + 1 + (j - 1) = i + j by omega] at this
    · rw [rc, show i + -1 + 1 = i by omega, show mo - (i + -1) = 1 + (mo - i) by omega, Ds_wn1 (by omega), if_pos rfl, wn_upl (by omega), hq]
    · rw [show i + -1 + 1 = i by omega, hX0, hXe, hUq, pw_s BB hi0]
      grind
theorem div_fin {v w X V Q p : Int} (hw : 0 < w) (hp : 0 < p) (hV : V = w * p) (h : v * p = X + V * Q) (h0 : 0 ≤ X) (h1 : X < V) : Q = v / w ∧ X / p = v % w := by
  have e1 : v * p / (w * p) = v / w := Int.mul_ediv_mul_of_pos_left _ _ hp
  have e2 : (X + V * Q) / V = Q := by
    rw [Int.add_mul_ediv_left _ _ (by omega), Int.ediv_eq_zero_of_lt h0 h1]
    omega
  have hq : Q = v / w := by rw [← e2, ← h, hV, e1]
  refine ⟨hq, ?_⟩
  have e3 : X = (v % w) * p := by
    have hm := Int.mul_ediv_add_emod v w
    have : v * p = (w * (v / w) + v % w) * p := by rw [hm]
    rw [hV, hq] at h
    grind
  rw [e3, Int.mul_ediv_cancel _ (by omega)]
theorem divideBy_ok (ka : zk a = (0, 3, 0)) (kb : zk b = (0, 3, 0)) (kc : zk c = (0, 3, 0)) (kd : zk d = (0, 3, 0)) (hba : b ≠ a) (hca : c ≠ a) (hda : d ≠ a) (hcb : c ≠ b) (hdb : d ≠ b) (hdc : d ≠ c) (ha : Na D a v) (hb : Na D b w) (hw : 0 < w) (hv : v < BB ^ 30) :
    CV g M_Na_divideBy [vR a, vR b, vR c, vR d] D (fun D' => Na D' a (v % w) ∧ Na D' c (v / w) ∧ F3 D D' a c d) := by
  have hb1 := hb.pos.mpr hw
  have va := ha.nn
  refine CV.intro mc_Na_divideBy (Nat.le_of_ble_eq_true rfl) rfl (s_Na_divideBy_0 ka kb kc kd fun D1 e1 => ?_)
  have f1 : Fa D D1 c := by rw [e1]; exact Fa.w0
  have ha1 : Na D1 a v := ha.fa f1 kc ka hca.symm
  have hb2 : Na D1 b w := hb.fa f1 kc kb hcb.symm
  have rb : D1 b 1 = D b 1 := by rw [e1, zw_off hcb.symm]
  have hc0 : Na D1 c 0 := by
    have r : D1 c 1 = 0 := by rw [e1, zw_eq]
    exact ⟨by rw [r]; decide, by rw [r]; exact fun i _ _ => by omega, Or.inl r, by rw [r, Ds_0]⟩
  refine ⟨fun q => by omega, fun _ => (order_ok ka kb ha1 hb2).mono fun y D2 h => ?_⟩
  obtain ⟨rfl, rfl⟩ := h
  refine s_Na_divideBy_17 ka kb kc kd ⟨fun q => ?_, fun q => retV ⟨?_, ?_, F3.c f1⟩⟩
  · have hwv : w ≤ v := by
      unfold scmp at q
      split at q
      · omega
      · omega
    refine ⟨fun q1 => ?_, fun q1 => ?_⟩
    · -- many digits
      refine (freeBits_ok kb hb2 hw).mono (fun s D3 h => ?_)
      obtain ⟨rfl, hs, hn1, hn2⟩ := h
      have hp := pw_pos (b := 2) (by decide) s.toNat
      have hp30 : (2 : Int) ^ s.toNat ≤ 1073741824 := ipow_le (n := s.toNat) (m := 30) (by omega)
      have hB31 : v * 2 ^ s.toNat < BB ^ 31 := by
        have q2 : v * 2 ^ s.toNat ≤ v * 1073741824 := Int.mul_le_mul_of_nonneg_left hp30 va
        have q3 : v * 1073741824 ≤ BB ^ 30 * 1073741824 := Int.mul_le_mul_of_nonneg_right (by omega) (by decide)
        have q4 : BB ^ 30 * 1073741824 < BB ^ 31 := by decide
        omega
      have hwB : w * 2 ^ s.toNat < BB ^ 31 := by
        have : w * 2 ^ s.toNat ≤ v * 2 ^ s.toNat := Int.mul_le_mul_of_nonneg_right hwv (by omega)
        omega
      have hB3132 : BB ^ 31 < BB ^ 32 := by decide
      refine s_Na_divideBy_54 ka kb kc kd ((copyFrom_ok kd kb hb2).mono fun D4 h4 => s_Na_divideBy_61 ka kc kd ((shiftUp_ok kd h4.1 hs (by omega)).mono fun D5 h5 => s_Na_divideBy_67 ka kc kd ?_))
      have f5 : Fa D3 D5 d := h4.2.tr h5.2
      have ha5 : Na D5 a v := ha1.fa f5 kd ka hda.symm
      refine (shiftUp_ok ka ha5 hs (by omega)).mono (fun D6 h6 => ?_)
      have hd6 : Na D6 d (w * 2 ^ s.toNat) := h5.1.fa h6.2 ka kd hda
      have hb6 : D6 b = D3 b ∧ D6 (b + 1) = D3 (b + 1) := ⟨by rw [h6.2 b hba (na_ne ka kb), f5 b hdb.symm (na_ne kd kb)], by rw [h6.2 (b + 1) (fun z => na_ne kb ka z.symm) (fun z => hba (Nat.succ.inj z)), f5 (b + 1) (fun z => na_ne kb kd z.symm) (fun z => hdb (Nat.succ.inj z).symm)]⟩
      -- the divisor's size and leading digit
      have hbs := hb2.1
      have hn : D6 d 1 = D3 b 1 := by
        have l1 := hd6.size_le (k := D3 b 1) (by omega) (by
          have e := Ds_s (f := D3 (b + 1)) (b := BB) (x := D3 b 1 - 1) (by omega)
          rw [show D3 b 1 - 1 + 1 = D3 b 1 by omega, hb2.2.2.2] at e
          have lt := Ds_lt BB_pos (hb2.2.1.mono (m := D3 b 1 - 1) (by omega))
          have q2 : D3 (b + 1) (D3 b 1 - 1) * 2 ^ s.toNat + 2 ^ s.toNat ≤ BB := by
            -- the leading digit has room: both sides are multiples of 2^s
            have hk : BB = 2 ^ (31 - s).toNat * 2 ^ s.toNat := by
              rw [← Int.pow_add, show (31 - s).toNat + s.toNat = 31 by omega]
              decide
            rw [hk] at hn1 ⊢
            have q5 : D3 (b + 1) (D3 b 1 - 1) < 2 ^ (31 - s).toNat := Int.lt_of_mul_lt_mul_right hn1 (by omega)
            have q6 : (D3 (b + 1) (D3 b 1 - 1) + 1) * 2 ^ s.toNat ≤ 2 ^ (31 - s).toNat * 2 ^ s.toNat := Int.mul_le_mul_of_nonneg_right (by omega) (by omega)
            rw [Int.add_mul, Int.one_mul] at q6
            exact q6
          have hB : BB ^ (D3 b 1).toNat = BB ^ (D3 b 1 - 1).toNat * BB := by
            have := pw_s BB (x := D3 b 1 - 1) (by omega)
            rwa [show D3 b 1 - 1 + 1 = D3 b 1 by omega] at this
          rw [hB, e]
          have hP := pw_pos BB_pos (D3 b 1 - 1).toNat
          have q7 : (D3 (b + 1) (D3 b 1 - 1) * 2 ^ s.toNat + 2 ^ s.toNat) * BB ^ (D3 b 1 - 1).toNat ≤ BB * BB ^ (D3 b 1 - 1).toNat := Int.mul_le_mul_of_nonneg_right q2 (by omega)
          have q8 : Ds (D3 (b + 1)) BB (D3 b 1 - 1) * 2 ^ s.toNat < BB ^ (D3 b 1 - 1).toNat * 2 ^ s.toNat := Int.mul_lt_mul_of_pos_right lt hp
          grind)
        have l2 : D3 b 1 ≤ D6 d 1 := by
          rcases hb2.2.2.1 with z | z
          · omega
          · have hge : w ≤ w * 2 ^ s.toNat := by
              have : w * 1 ≤ w * 2 ^ s.toNat := Int.mul_le_mul_of_nonneg_left (by omega) (by omega)
              omega
            have hlt := hd6.lt
            rcases Int.lt_or_le (D6 d 1) (D3 b 1) with y | y
            · have := pw_le BB_ge (x := D6 d 1) (y := D3 b 1 - 1) (by omega)
              omega
            · exact y
        omega
      generalize hnn : D6 d 1 = n at hn
      have hd6s := hd6.1
      have hnormal : 1073741824 ≤ D6 (d + 1) (n - 1) := by
        -- the value is at least 2^30 times the leading power
        have e := Ds_s (f := D3 (b + 1)) (b := BB) (x := D3 b 1 - 1) (by omega)
        rw [show D3 b 1 - 1 + 1 = D3 b 1 by omega, hb2.2.2.2, ← hn] at e
        have nn := Ds_nn BB_pos (hb2.2.1.mono (m := n - 1) (by omega))
        have e2 := Ds_s (f := D6 (d + 1)) (b := BB) (x := n - 1) (by omega)
        rw [show n - 1 + 1 = n by omega] at e2
        have e3 : Ds (D6 (d + 1)) BB n = w * 2 ^ s.toNat := by rw [← hnn]; exact hd6.2.2.2
        have lt2 := Ds_lt BB_pos (hd6.2.1.mono (m := n - 1) (by omega))
        have hP := pw_pos BB_pos (n - 1).toNat
        rw [← hn] at hn2
        have q2 : 1073741824 * BB ^ (n - 1).toNat ≤ D3 (b + 1) (n - 1) * 2 ^ s.toNat * BB ^ (n - 1).toNat := Int.mul_le_mul_of_nonneg_right hn2 (by omega)
        have q3 : w * 2 ^ s.toNat = Ds (D3 (b + 1)) BB (n - 1) * 2 ^ s.toNat + D3 (b + 1) (n - 1) * 2 ^ s.toNat * BB ^ (n - 1).toNat := by rw [e]; grind
        have q4 : 0 ≤ Ds (D3 (b + 1)) BB (n - 1) * 2 ^ s.toNat := Int.mul_nonneg nn (by omega)
        rcases Int.lt_or_le (D6 (d + 1) (n - 1)) 1073741824 with y | y
        · have q5 : D6 (d + 1) (n - 1) * BB ^ (n - 1).toNat ≤ 1073741823 * BB ^ (n - 1).toNat := Int.mul_le_mul_of_nonneg_right (by omega) (by omega)
          omega
        · exact y
      have hsz : D6 a 1 ≤ 31 := h6.1.size_le (k := 31) (by omega) hB31
      have hge6 : n ≤ D6 a 1 := by
        have : w * 2 ^ s.toNat ≤ v * 2 ^ s.toNat := Int.mul_le_mul_of_nonneg_right hwv (by omega)
        rw [← hnn]
        exact hd6.size_le h6.1.1.1 (Int.lt_of_le_of_lt this h6.1.lt)
      have h6s := h6.1.1
      have hbp := hb2.pos.mpr hw
      rw [← hn] at q1 hbp
      have hn2' : 2 ≤ n := by omega
      refine s_Na_divideBy_73 ka kc kd ⟨by rw [hnn]; omega, fun q => by rw [hnn] at q; omega, fun _ => ⟨fun _ => ⟨by omega, fun D7 e7 => ?_⟩, fun q => by omega⟩⟩
      rw [hnn]
      have r7a : D7 a = D6 a := by rw [e7, zw_off (a_ne a)]
      have r7d : D7 d = D6 d ∧ D7 (d + 1) = D6 (d + 1) := ⟨by rw [e7, zw_off (na_ne ka kd)], by rw [e7, zw_off (fun z => hda (Nat.succ.inj z))]⟩
      have r7 : D7 (a + 1) = fun j => if j = D6 a 1 then 0 else D6 (a + 1) j := by rw [e7, zw_row]
      have f7 : F3 D D7 a c d := ((F3.c f1).tr (F3.d f5)).tr ((F3.a h6.2).tr (F3.a (by rw [e7]; exact Fa.w1)))
      have hX0 : Ds (D7 (a + 1)) BB (D6 a 1 - n + n + 1) = v * 2 ^ s.toNat := by
        rw [show D6 a 1 - n + n = D6 a 1 by omega, r7, Ds_up (by omega), h6.1.2.2.2]
        omega
      have hDg7 : Dg (D7 (a + 1)) BB (D6 a 1 - n + n + 1) := by
        rw [show D6 a 1 - n + n = D6 a 1 by omega, r7]
        exact Dg_up h6.1.2.1 (by decide)
      have hVd : Ds (D6 (d + 1)) BB n = w * 2 ^ s.toNat := by rw [← hnn]; exact hd6.2.2.2
      have hXV : v * 2 ^ s.toNat < w * 2 ^ s.toNat * BB ^ (D6 a 1 - n + 1).toNat := by
        have l1 := h6.1.lt
        have l2 : 1073741824 * BB ^ (n - 1).toNat ≤ w * 2 ^ s.toNat := by
          have e2 := Ds_s (f := D6 (d + 1)) (b := BB) (x := n - 1) (by omega)
          rw [show n - 1 + 1 = n by omega, hVd] at e2
          have nn := Ds_nn BB_pos (hd6.2.1.mono (m := n - 1) (by omega))
          have q5 : 1073741824 * BB ^ (n - 1).toNat ≤ D6 (d + 1) (n - 1) * BB ^ (n - 1).toNat := Int.mul_le_mul_of_nonneg_right hnormal (Int.le_of_lt (pw_pos BB_pos _))
          omega
        have hP := pw_pos BB_pos (D6 a 1 - n + 1).toNat
        have l3 : 1073741824 * BB ^ (n - 1).toNat * BB ^ (D6 a 1 - n + 1).toNat ≤ w * 2 ^ s.toNat * BB ^ (D6 a 1 - n + 1).toNat := Int.mul_le_mul_of_nonneg_right l2 (by omega)
        have l4 : BB ^ (n - 1).toNat * BB ^ (D6 a 1 - n + 1).toNat = BB ^ (D6 a 1).toNat := by rw [← pw_add BB (by omega) (by omega), show n - 1 + (D6 a 1 - n + 1) = D6 a 1 by omega]
        have l5 := pw_pos BB_pos (D6 a 1).toNat
        have l6 : 1073741824 * BB ^ (n - 1).toNat * BB ^ (D6 a 1 - n + 1).toNat = 1073741824 * BB ^ (D6 a 1).toNat := by rw [Int.mul_assoc, l4]
        omega
      refine div_loop (De := D7) ka kc kd hca hda hdc (V := w * 2 ^ s.toNat) (X0 := v * 2 ^ s.toNat) (mo := D6 a 1 - n) (n := n) (by rw [r7d.1]; exact hnn) hn2' (by rw [r7a]; omega) (by omega) (by omega) (by rw [r7d.2, ← hnn]; exact hd6.2.1) (by rw [r7d.2]; exact hnormal) (by rw [r7d.2]; exact hVd) (fun D8 X Qv z1 hsame hf8 hdg8 hX hX0' hXV' hdq hq hfin => ?_)
        (D6 a 1 - n + 1).toNat (D6 a 1 - n) D7 (v * 2 ^ s.toNat) 0 _ (by omega) (Int.le_refl _) ⟨rfl, rfl, rfl, rfl⟩ F3.rf hDg7 (fun j j1 j2 => by omega) hX0 hXV (fun j j1 j2 => by omega) (by rw [Int.sub_self, Ds_0]) (by simp)
      obtain ⟨s1, s2, s3, s4⟩ := hsame
      have fin := div_fin hw hp rfl hfin hX0' hXV'
      refine s_Na_divideBy_113 ka kc kd ⟨fun _ => ⟨by omega, fun D9 e9 => ?_⟩, fun q => by omega⟩
      have r9c : D9 (c + 1) = D8 (c + 1) := by rw [e9, zw_off (a_ne' c)]
      have r9 : D9 c 1 = D6 a 1 - n + 1 := by rw [e9, zw_eq]
      refine (trim_ok kc (D := D9) (v := Qv) ⟨by rw [r9]; omega, by rw [r9, r9c]; exact hdq, by rw [r9, r9c]; exact hq⟩).mono (fun D10 h10 => s_Na_divideBy_151 ka kd fun D11 e11 => ?_)
      have f10 : Fa D8 D10 c := (show Fa D8 D9 c by rw [e9]; exact Fa.w0).tr (fun c1 q1 q2 => h10.2.2 c1 q1)
      have r10d : D10 d = D6 d := by rw [f10 d hdc (na_ne kc kd), s1, r7d.1]
      have r10a : D10 (a + 1) = D8 (a + 1) := f10 (a + 1) (fun z => na_ne ka kc z.symm) (fun z => hca (Nat.succ.inj z).symm)
      have r11 : D11 a 1 = n := by rw [e11, zw_eq, r10d]; exact hnn
      have r11a : D11 (a + 1) = D8 (a + 1) := by rw [e11, zw_off (a_ne' a), r10a]
      refine (trim_ok ka (D := D11) (v := X) ⟨by rw [r11]; omega, by rw [r11, r11a]; exact hdg8.mono (by omega), by rw [r11, r11a]; exact hX⟩).mono (fun D12 h12 => s_Na_divideBy_163 ka ((shiftDown_ok ka h12.1 hs).mono fun D13 h13 => s_Na_divideBy_169 (retV ?_)))
      have f13 : Fa D10 D13 a := ((show Fa D10 D11 a by rw [e11]; exact Fa.w0).tr (fun c1 q1 q2 => h12.2.2 c1 q1)).tr h13.2
      refine ⟨by rw [← fin.2]; exact h13.1, by rw [← fin.1]; exact h10.1.fa f13 ka kc hca, ?_⟩
      exact (f7.tr hf8).tr ((F3.c f10).tr (F3.a f13))
    · -- one digit
      have hw1 : w = D2 (b + 1) 0 := by
        rw [← hb2.2.2.2, q1, show (1 : Int) = 0 + 1 from rfl, Ds_s (Int.le_refl 0), Ds_0]
        simp
      refine (copyFrom_ok kc ka ha1).mono (fun D3 h3 => s_Na_divideBy_34 ka kb kc ?_)
      have rb3 : D3 (b + 1) 0 = w := by rw [h3.2 (b + 1) (fun z => na_ne kb kc z.symm) (fun z => hcb (Nat.succ.inj z).symm), ← hw1]
      rw [rb3]
      refine (divideSmall_ok kc h3.1 (by omega)).mono (fun y D4 h4 => ?_)
      obtain ⟨h4a, h4b, rfl⟩ := h4
      refine s_Na_divideBy_45 ka ((setSmall_ok ka (Int.emod_nonneg _ (by omega))).mono fun D5 h5 => s_Na_divideBy_49 (retV ⟨h5.1, h4a.fa h5.2 ka kc hca, ?_⟩))
      exact ((F3.c f1).tr (F3.c (h3.2.tr h4b))).tr (F3.a h5.2)
  · have hvw : v < w := by
      unfold scmp at q
      split at q
      · omega
      · split at q <;> omega
    rw [Int.emod_eq_of_lt va hvw]
    exact ha1
  · have hvw : v < w := by
      unfold scmp at q
      split at q
      · omega
      · split at q <;> omega
    rw [Int.ediv_eq_zero_of_lt va hvw]
    exact hc0
end NA6
