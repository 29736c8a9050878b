/-! constructors called -/
section MAKE3
variable {g : GG} {M M' : MI} {mc ms mc' ms' : Nat} {Q Q' : Option VV → EE → DD → Prop} {pc : Nat} {L st : List VV} {E : EE} {D : DD} {ca sa : Nat}
theorem map_revI {as : List VV} {a : Nat} : (as.reverse ++ vR a :: st).map (val g) = (as.map (val g)).reverse ++ .ref (gB g + a) :: st.map (val g) := map_rev
theorem q_callI {n index : Nat} {a : Nat} {as stk : List VV} (hM : MOK M' n) (hV : MII M') (hr : mR M' = none) (hl : Cond.methodLink (mY M).cls index (mY M') ∈ zT) (d : decode (mC M) pc = .ok (.invokespecial index, 3)) (hk : callok M M' st = true) (hn : as.length = n) (hstk : stk = as.reverse ++ vR a :: st)
    (hcs : ca + mc' ≤ mc ∧ sa + ms' ≤ ms) (hA : AT g M' mc' ms' (vR a :: as) E D Q') (kk : ∀ r E' D', Q' r E' D' → Zg g M mc ms Q (pc + 3) L (r.toList ++ st) E' D' (ca + mc') (sa + ms')) : Zg g M mc ms Q pc L stk E D ca sa := by
  subst hstk
  obtain ⟨y, cc, ml, rr, dp⟩ := M'
  have hr' : rr = none := hr
  subst hr'
  intro p l e R s m args below meth c X hR H locs ls hH hS hl' hL hs
  have hts := X.2.2.2.2.2.1
  obtain ⟨hsa, hss⟩ := ok_split hs
  rw [map_revI]
  have hr := va_runI (p := p) (l := l) (e := e) (R := R) (s := s) (m := m) (args := args) (below := below) (meth := meth) (c := c) (H := H) (locs := locs) (cells := ca) (slots := sa) (b := gB g + a) (As := as.map (val g)) (rest := st.map (val g)) (g := F0 m pc ls ((as.map (val g)).reverse ++ .ref (gB g + a) :: st.map (val g))) (nL := mL M) ⟨X.1, X.2.1, X.2.2.1, X.2.2.2.2.1, hts⟩ (hA l)
    (cwI n hts (goodIn_ws hM.1) rfl rfl rfl (hts _ hM.2.1) (hts _ hl) (hts _ hV.1) hV.2 ⟨hM.2.2.2.1, hM.2.2.2.2.1, hM.2.2.2.2.2⟩ (callok_R hk hR))
    ⟨blind_Pc, fun U hU hW => pre_call X hH hS hsa U hU hW⟩ rfl (by rw [List.length_map]; exact hn) hl'.1 rfl (callok_W hk) d ⟨Nat.le_trans hcs.1 hR.2.2.1, Nat.le_trans hcs.2 hR.2.2.2⟩
  exact call_core X hR hr hS hl' hL hss kk
theorem q_callIN {n index : Nat} {h0 : String} {a : Nat} {as stk : List VV} (hM : MOK M' n) (hV : MII M') (hr : mR M' = none) (hl : Cond.methodLinkNest (mY M).cls index (mY M') h0 ∈ zNest) (d : decode (mC M) pc = .ok (.invokespecial index, 3)) (hk : callok M M' st = true) (hn : as.length = n) (hstk : stk = as.reverse ++ vR a :: st)
    (hcs : ca + mc' ≤ mc ∧ sa + ms' ≤ ms) (hA : AT g M' mc' ms' (vR a :: as) E D Q') (kk : ∀ r E' D', Q' r E' D' → Zg g M mc ms Q (pc + 3) L (r.toList ++ st) E' D' (ca + mc') (sa + ms')) : Zg g M mc ms Q pc L stk E D ca sa := by
  subst hstk
  obtain ⟨y, cc, ml, rr, dp⟩ := M'
  have hr' : rr = none := hr
  subst hr'
  intro p l e R s m args below meth c X hR H locs ls hH hS hl' hL hs
  have hts := X.2.2.2.2.2.1
  obtain ⟨hsa, hss⟩ := ok_split hs
  rw [map_revI]
  have hr := va_runIN (p := p) (l := l) (e := e) (R := R) (s := s) (m := m) (args := args) (below := below) (meth := meth) (c := c) (H := H) (locs := locs) (cells := ca) (slots := sa) (b := gB g + a) (As := as.map (val g)) (rest := st.map (val g)) (g := F0 m pc ls ((as.map (val g)).reverse ++ .ref (gB g + a) :: st.map (val g))) (nL := mL M) (Ts := zT) ⟨X.1, X.2.1, X.2.2.1, X.2.2.2.2.1, hts⟩ (hA l)
    ⟨va_cnB n hts (goodIn_ws hM.1) rfl rfl rfl (X.2.2.2.2.2.2.2.2.2.1 _ hl) (hts _ hM.2.1) ⟨hM.2.2.2.1, hM.2.2.2.2.1, hM.2.2.2.2.2⟩ (callok_R hk hR), hV.2, hts _ hV.1⟩
    ⟨blind_Pc, fun U hU hW => pre_call X hH hS hsa U hU hW⟩ rfl (by rw [List.length_map]; exact hn) hl'.1 rfl (callok_W hk) d ⟨Nat.le_trans hcs.1 hR.2.2.1, Nat.le_trans hcs.2 hR.2.2.2⟩
  exact call_core X hR hr hS hl' hL hss kk
end MAKE3
