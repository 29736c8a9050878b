/-! Profile made -/
section PRI
variable {g : GG} {M M' : MI} {mc ms mc' ms' : Nat} {Q Q' : Option VV → EE → DD → Prop} {pc : Nat} {L st : List VV} {E E0 E' : EE} {D D0 : DD} {ca sa : Nat} {F : Nat → Bool} {X : Nat → Nat → Bool}
theorem updX_comm {r r2 j j2 : Nat} (h : r ≠ r2) : updX (updX X r j) r2 j2 = updX (updX X r2 j2) r j := by
  funext i k
  unfold updX
  by_cases z : i = r
  · rw [if_neg (by omega), if_pos z, if_pos z]
  · rw [if_neg z, if_neg z]
theorem oneD_off {b c : Nat} (h : c ≠ b ∧ c ≠ b + 1) : oneD D b c = D c := by
  unfold oneD
  rw [zw_off h.1, zw_off h.2, zw_off h.1]
theorem zdv_Pr : zdv 5 F_Pr 8 := zdv_of t_Pr_ok (by decide +kernel)
/-- an element that is a new Fraction -/
theorem q_eltF {n t r j N a k0 idx1 idx2 : Nat} (hcl : Cond.classLink (mY M).cls idx1 "SpeedKernel$Fraction" ∈ zT) (hl : Cond.methodLink (mY M).cls idx2 M_Fr_init.1 ∈ zT) (hk : callok M M_Fr_init (vR N :: vI j :: vR r :: st) = true) (d0 : decode (mC M) pc = .ok (.new idx1, 3)) (d3 : decode (mC M) (pc + 3) = .ok (.dup, 1)) (d4 : decode (mC M) (pc + 3 + 1) = .ok (.invokespecial idx2, 3)) (d7 : decode (mC M) (pc + 3 + 1 + 3) = .ok (.aastore, 1))
    (hta : (ztys g)[k0]? = some (gA g (zra t).1, .object "SpeedKernel$Fraction")) (hr : zk r = (5, n, t)) (hrN : a < r ∧ r < N) (hb : zk N = (0, 4, 0)) (hbe : N = r + (zra t).2.1 + (zra t).2.2 * j) (hj : j < n ∧ n ≤ 1000) (hE : E0.2.2) (hz : ∀ i j, N ≤ i → D i j = 0) (hcs : ca + 1 + 4 ≤ mc ∧ sa + 2 + 68 ≤ ms)
    (hX : ∀ i k, N ≤ i → i < N + 5 → rp i k → X i k = true)
    (kk : ∀ D', D' = oneD D (N + 3) → Zg g M mc ms Q (pc + 3 + 1 + 3 + 1) L st (eC E0 a (N + 5) F (updX X r (j + 1))) D' (ca + 1 + 4) (sa + 2 + 68)) : Zg g M mc ms Q pc L (vI j :: vR r :: st) (eC E0 a N F (updX X r j)) D ca sa := by
  refine q_sub (b := N) (t := 0) (s := 5) (P := fun D D' => D' = oneD D (N + 3)) zc_Fr zdv_Fr zi_Fr hcl d0 d3 d4 mc_Fr_init mi_Fr_init rfl hl hk hb rfl hE (fun i k h => eC_out ⟨by omega, h⟩) hz hcs (fr_init hb) ?_
  intro D' hD
  exact q_elt (rc := (R_Fr, F_Fr, 2)) rfl hta d7 hr hrN hb (by decide) hbe hj hE hX (kk D' hD)
end PRI
