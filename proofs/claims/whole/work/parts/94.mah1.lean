/-! the model's AHEAD: nextEvent, inOrder -/
/-- the next event -/
def NE (n : Nat) (r d : Nat → Int) (t y : Int) : Prop := t < y ∧ (y = 201 ∨ Evt n r d y) ∧ ∀ j, j < n → (t < r j → y ≤ r j) ∧ (t < d j → y ≤ d j)
/-- a place that may be worked on -/
def opb (D : DD) (r d : Nat → Int) (pl : Nat → Nat) (t : Int) (q : Nat) : Bool := decide (r (pl q) ≤ t ∧ t < d (pl q) ∧ 0 < D 710 (230 + (pl q : Int)))
def IO (D : DD) (n : Nat) (r d : Nat → Int) (pl : Nat → Nat) (t k y : Int) : Prop :=
  (y = -1 ∧ (cN (opb D r d pl t) n : Int) ≤ k) ∨ ∃ p : Nat, p < n ∧ opb D r d pl t p = true ∧ y = pl p ∧ (cN (opb D r d pl t) p : Int) = k
theorem cN_all {f : Nat → Bool} : ∀ {m}, (∀ i, i < m → f i = false) → cN f m = 0
  | 0, _ => rfl
  | m + 1, q => by
    show cN f m + _ = 0
    rw [cN_all fun i hi => q i (by omega), q m (by omega)]
    rfl
section MAH1
variable {g : GG} {D D0 : DD} {n : Nat} {r d w : Nat → Int} {pl : Nat → Nat}
theorem nextEvent_loop (f : JF n r d w pl) (h : JM D n r d w) {t : Int} : ∀ (m i : Nat) (x : Int), i + m = n → t < x → (x = 201 ∨ Evt n r d x) → (∀ j, j < i → (t < r j → x ≤ r j) ∧ (t < d j → x ≤ d j)) → Sg g M_Mo_nextEvent (rI (fun y D' => D' = D ∧ NE n r d t y)) 6 [vR 708, vI t, vI x, vI i] [] D := by
  have hn := f.1
  have h1 := h.1
  intro m
  induction m with
  | zero =>
    intro i x hm hx he hI
    exact s_Mo_nextEvent_6 ⟨fun _ => retI ⟨rfl, hx, he, fun j hj => hI j (by omega)⟩, fun q => by omega⟩
  | succ m ih =>
    intro i x hm hx he hI
    have hi : i < n := by omega
    obtain ⟨e1, e2, e3⟩ := h.2 i hi
    have last : ∀ z x', t < x' → (x' = 201 ∨ Evt n r d x') → (∀ j, j < i + 1 → (t < r j → x' ≤ r j) ∧ (t < d j → x' ≤ d j)) → Sg g M_Mo_nextEvent (rI (fun y D' => D' = D ∧ NE n r d t y)) 75 [vR 708, vI t, z, vI i] [vI x'] D := fun z x' q1 q2 q3 => s_Mo_nextEvent_75 ⟨by unfold R32; omega, ih (i + 1) x' (by omega) q1 q2 q3⟩
    have mid : ∀ z x', t < x' → x' ≤ x → (x' = 201 ∨ Evt n r d x') → (t < r i → x' ≤ r i) → Sg g M_Mo_nextEvent (rI (fun y D' => D' = D ∧ NE n r d t y)) 44 [vR 708, vI t, z, vI i] [vI x'] D := fun z x' q1 q2 q3 q4 => by
      have up : ∀ x'', x'' ≤ x' → (t < d i → x'' ≤ d i) → ∀ j, j < i + 1 → (t < r j → x'' ≤ r j) ∧ (t < d j → x'' ≤ d j) := fun x'' y1 y2 j hj => by
        rcases (show j = i ∨ j < i by omega) with y | y
        · rw [y]; exact ⟨fun z => by have := q4 z; omega, y2⟩
        · have := hI j y
          exact ⟨fun z => by have := this.1 z; omega, fun z => by have := this.2 z; omega⟩
      refine s_Mo_nextEvent_44 ⟨by omega, ?_⟩
      rw [e2]
      refine ⟨fun q => s_Mo_nextEvent_74 (last _ x' q1 q3 (up x' (by omega) (fun z => by omega))), fun q => ⟨by omega, fun q5 => s_Mo_nextEvent_74 (last _ x' q1 q3 (up x' (by omega) (fun z => q5))), fun q5 => ⟨by omega, last _ (d i) (by omega) (Or.inr ⟨i, hi, Or.inr rfl⟩) (up (d i) (by omega) (fun z => by omega))⟩⟩⟩
    refine s_Mo_nextEvent_6 ⟨fun q => by omega, fun _ => ⟨by omega, ?_⟩⟩
    rw [e1]
    exact ⟨fun q => s_Mo_nextEvent_43 (mid _ x hx (by omega) he (fun z => by omega)), fun q => ⟨by omega, fun q2 => s_Mo_nextEvent_43 (mid _ x hx (by omega) he (fun z => q2)), fun q2 => ⟨by omega, mid _ (r i) (by omega) (by omega) (Or.inr ⟨i, hi, Or.inl rfl⟩) (fun z => by omega)⟩⟩⟩
theorem nextEvent_ok (f : JF n r d w pl) (h : JM D n r d w) {t : Int} (ht : t < 201) : CI g M_Mo_nextEvent [vR 708, vI t] D (fun y D' => D' = D ∧ NE n r d t y) :=
  CI.intro mc_Mo_nextEvent (Nat.le_of_ble_eq_true rfl) rfl (s_Mo_nextEvent_0 (nextEvent_loop f h n 0 201 (by omega) ht (Or.inl rfl) (fun j hj => by omega)))
/-- the pointer at a place: all before it were seen -/
def PT (n : Nat) (d : Nat → Int) (pl : Nat → Nat) (e : Int) (j : Nat) (m : Nat) : Prop := m ≤ n ∧ ∀ q, q < n → (q < m ↔ (d (pl q) < e ∨ (d (pl q) = e ∧ pl q < j)))
theorem PT.at (hpl : Pl n d pl) {e : Int} {j m : Nat} (h : PT n d pl e j m) (hj : j < n) (he : d j = e) : m < n ∧ pl m = j := by
  obtain ⟨p, hp, e2⟩ := hpl.2.2 j hj
  have key : ∀ q, q < n → (q < m ↔ q < p) := fun q hq => by
    rw [h.2 q hq]
    rcases Nat.lt_trichotomy q p with y | y | y
    · have := hpl.2.1 q p y hp
      rw [e2] at this
      omega
    · rw [y, e2]; omega
    · have := hpl.2.1 p q y hq
      rw [e2] at this
      omega
  have a := key p hp
  have mp : m = p := by
    rcases Nat.lt_trichotomy m p with y | y | y
    · have := key m (by omega); omega
    · exact y
    · omega
  rw [mp]
  exact ⟨hp, e2⟩
theorem inOrder_loop (f : JF n r d w pl) (h : JM D n r d w) {t : Int} {k : Int} (ht : 0 ≤ t) : ∀ (A : Nat) (e : Int) (z2 z5 : VV) (x : Int) (m : Nat), e + A = 201 → t < e → PT n d pl e 0 m → x = k - cN (opb D r d pl t) m → 0 ≤ x → x ≤ 1000 →
    Sg g M_Mo_inOrder (rI (fun y D' => D' = D ∧ IO D n r d pl t k y)) 7 [vR 708, vI t, z2, vI x, vI e, z5] [] D := by
  have hn := f.1
  have hpl := f.2.2.2
  have h1 := h.1
  intro A
  induction A with
  | zero =>
    intro e z2 z5 x m hA hte pt hx x0 x1
    refine s_Mo_inOrder_7 ⟨fun _ => retI ⟨rfl, Or.inl ⟨rfl, ?_⟩⟩, fun q => by omega⟩
    have mn : m = n := by
      rcases Nat.lt_or_ge m n with y | y
      · have a := (pt.2 m y).mpr (Or.inl (by have := f.2.1 (pl m) (hpl.1 m y); omega))
        omega
      · have := pt.1; omega
    rw [← mn]; omega
  | succ A ih =>
    intro e z2 z5 x m hA hte pt hx x0 x1
    refine s_Mo_inOrder_7 ⟨fun q => by omega, fun _ => ?_⟩
    -- jobs with this deadline
    have inner : ∀ (B j : Nat) (z2 : VV) (x : Int) (m : Nat), j + B = n → PT n d pl e j m → x = k - cN (opb D r d pl t) m → 0 ≤ x → x ≤ 1000 →
        Sg g M_Mo_inOrder (rI (fun y D' => D' = D ∧ IO D n r d pl t k y)) 18 [vR 708, vI t, z2, vI x, vI e, vI j] [] D := by
      intro B
      induction B with
      | zero =>
        intro j z2 x m hB pt hx x0 x1
        refine s_Mo_inOrder_18 ⟨fun _ => ⟨by unfold R32; omega, ih (e + 1) _ _ x m (by omega) (by omega) ⟨pt.1, fun q hq => ?_⟩ hx x0 x1⟩, fun q => by omega⟩
        rw [pt.2 q hq]
        have := hpl.1 q hq
        omega
      | succ B ihB =>
        intro j z2 x m hB pt hx x0 x1
        have hj : j < n := by omega
        obtain ⟨e1, e2, e3⟩ := h.2 j hj
        -- passed over
        have skip : ∀ z, (d j = e → opb D r d pl t m = false) → Sg g M_Mo_inOrder (rI (fun y D' => D' = D ∧ IO D n r d pl t k y)) 74 [vR 708, vI t, z, vI x, vI e, vI j] [] D := fun z q => by
          refine s_Mo_inOrder_74 ⟨by unfold R32; omega, ?_⟩
          rcases Classical.em (d j = e) with y | y
          · have a := pt.at hpl hj y
            refine ihB (j + 1) _ x (m + 1) (by omega) ⟨by omega, fun q hq => ?_⟩ ?_ x0 x1
            · rcases (show q = m ∨ q ≠ m by omega) with u | u
              · rw [u, a.2, y]; omega
              · have b := pt.2 q hq
                have : pl q ≠ j := fun v => u (hpl.inj hq a.1 (by rw [v, a.2]))
                omega
            · have c : cN (opb D r d pl t) (m + 1) = cN (opb D r d pl t) m := by
                show cN (opb D r d pl t) m + _ = _
                rw [q y]; rfl
              rw [c]; exact hx
          · refine ihB (j + 1) _ x m (by omega) ⟨pt.1, fun q hq => ?_⟩ hx x0 x1
            rw [pt.2 q hq]
            have : d (pl q) = e → pl q ≠ j := fun u v => y (by rw [← v]; exact u)
            omega
        refine s_Mo_inOrder_18 ⟨fun q => by omega, fun _ => ⟨by omega, ?_⟩⟩
        rw [e2, e1]
        refine ⟨fun q => skip _ fun z => absurd z q, fun q => ⟨by omega, fun q2 => skip _ fun z => ?_, fun q2 => ⟨⟨by unfold R32; omega, by omega⟩, fun q3 => skip _ fun z => ?_, fun q3 => ?_⟩⟩⟩
        · have a := pt.at hpl hj z
          exact decide_eq_false fun y => by rw [a.2] at y; omega
        · have a := pt.at hpl hj z
          exact decide_eq_false fun y => by rw [a.2] at y; omega
        · have a := pt.at hpl hj q
          have o : opb D r d pl t m = true := decide_eq_true (by rw [a.2]; omega)
          refine ⟨fun q4 => ⟨by unfold R32; omega, s_Mo_inOrder_74 ⟨by unfold R32; omega, ?_⟩⟩, fun q4 => retI ⟨rfl, Or.inr ⟨m, a.1, o, by rw [a.2], by omega⟩⟩⟩
          refine ihB (j + 1) _ (x + (-1)) (m + 1) (by omega) ⟨by omega, fun q5 hq => ?_⟩ ?_ (by omega) (by omega)
          · rcases (show q5 = m ∨ q5 ≠ m by omega) with u | u
            · rw [u, a.2, q]; omega
            · have b := pt.2 q5 hq
              have : pl q5 ≠ j := fun v => u (hpl.inj hq a.1 (by rw [v, a.2]))
              omega
          · have c : cN (opb D r d pl t) (m + 1) = cN (opb D r d pl t) m + 1 := by
              show cN (opb D r d pl t) m + _ = _
              rw [o]; rfl
            rw [c]; omega
    exact inner n 0 _ x m (by omega) pt hx x0 x1
theorem inOrder_ok (f : JF n r d w pl) (h : JM D n r d w) {t : Int} {k : Int} (ht : 0 ≤ t ∧ t ≤ 200) (hk : 0 ≤ k ∧ k ≤ 1000) : CI g M_Mo_inOrder [vR 708, vI t, vI k] D (fun y D' => D' = D ∧ IO D n r d pl t k y) := by
  obtain ⟨m, hm, hpre⟩ := pl_pre f.2.2.2 t
  refine CI.intro mc_Mo_inOrder (Nat.le_of_ble_eq_true rfl) rfl (s_Mo_inOrder_0 ⟨by unfold R32; omega, inOrder_loop f h ht.1 (200 - t.toNat) (t + 1) _ _ k m (by omega) (by omega) ⟨hm, fun q hq => by rw [hpre q hq]; omega⟩ ?_ hk.1 hk.2⟩)
  rw [cN_all fun i hi => ?_]
  · omega
  · have := (hpre i (by omega)).mp hi
    exact decide_eq_false fun y => by omega
end MAH1
