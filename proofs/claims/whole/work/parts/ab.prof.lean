/-! Profile made -/
section PRI
variable {g : GG} {M M' : MI} {mc ms mc' ms' : Nat} {Q Q' : Option VV → EE → DD → Prop} {pc : Nat} {L st : List VV} {E E0 E' : EE} {D D0 : DD} {ca sa : Nat} {F : Nat → Bool} {X : Nat → Nat → Bool}
theorem updX_comm {r r2 j j2 : Nat} (h : r ≠ r2) : updX (updX X r j) r2 j2 = updX (updX X r2 j2) r j := by
  funext i k
  unfold updX
  by_cases z : i = r
  · rw [if_neg (by omega), if_pos z, if_pos z]
  · rw [if_neg z, if_neg z]
theorem oneD_off {b c : Nat} (h : c ≠ b ∧ c ≠ b + 1) : oneD D b c = D c := by
  unfold oneD
  rw [zw_off h.1, zw_off h.2, zw_off h.1]
theorem zdv_Pr : zdv 5 F_Pr 8 := zdv_of t_Pr_ok (by decide +kernel)
end PRI
