/-! Profile made: the whole -/
section PRJ
variable {g : GG} {E E0 : EE} {D D0 : DD} {ca sa : Nat} {F : Nat → Bool} {X : Nat → Nat → Bool} {Q : Option VV → EE → DD → Prop} {a : Nat}
/-- only these cells are changed -/
def DL (lo hi : Nat) (D D' : DD) : Prop := ∀ c, (c < lo ∨ hi ≤ c) → D' c = D c
theorem pr_loop1 (ha : zk a = (0, 5, 0)) (hE : E0.2.2) (hF : F 4 = true) (hz0 : ∀ i j, a ≤ i → D0 i j = 0) (hX : ∀ i k, a + 11 ≤ i → X i k = true)
    (hk : ∀ D, DL (a + 6) (a + 131) D0 D → Zg g M_Pr_init 190 2874 Q 85 [vR a, vI 24] [] (eC E0 a (a + 131) F (updX X (a + 3) 24)) D (10 + 24 * 5) (354 + 24 * 70)) :
    ∀ (m j : Nat) (D : DD), j + m = 24 → DL (a + 6) (a + 11 + 5 * j) D0 D → Zg g M_Pr_init 190 2874 Q 60 [vR a, vI j] [] (eC E0 a (a + 11 + 5 * j) F (updX X (a + 3) j)) D (10 + j * 5) (354 + j * 70) := by
  intro m
  induction m with
  | zero =>
    intro j D hm hD
    obtain rfl : j = 24 := by omega
    refine q_iload_n d_Pr_init_60 rfl ?_
    refine q_bipush d_Pr_init_61 (by decide) ?_
    refine q_icmp_ge (tgt := 85) d_Pr_init_63 (by decide) (fun _ => hk D hD) (fun q => by omega)
  | succ m ih =>
    intro j D hm hD
    refine q_iload_n d_Pr_init_60 rfl ?_
    refine q_bipush d_Pr_init_61 (by decide) ?_
    refine q_icmp_ge (tgt := 85) d_Pr_init_63 (by decide) (fun q => by omega) (fun _ => ?_)
    refine q_aload_n d_Pr_init_66 rfl ?_
    refine q_getR (k := 4) (off := 3) zc_Pr l_Pr_20 (by decide +kernel) d_Pr_init_67 ha (by show a < a + 11 + 5 * j; omega) (by rw [eC_at]; exact hF) ?_
    refine q_iload_n d_Pr_init_70 rfl ?_
    have zr : zk (a + 11 + 5 * j) = (0, 4, 0) := by
      have := ze_0 (zs_Pr_rate ha) (i := j) (by omega)
      rwa [show a + 3 + 8 + 5 * j = a + 11 + 5 * j by omega] at this
    refine q_eltF (N := a + 11 + 5 * j) (k0 := 5) (t := 0) (n := 24) l_Pr_18 l_Pr_30 rfl d_Pr_init_71 d_Pr_init_74 d_Pr_init_75 d_Pr_init_78 rfl (zs_Pr_rate ha) (by omega) zr (by show a + 11 + 5 * j = a + 3 + 8 + 5 * j; omega) (by omega) hE (fun i k h => by rw [hD i (by omega)]; exact hz0 i k (by omega)) (by omega) (fun i k h1 h2 _ => hX i k (by omega)) ?_
    intro D' e
    refine q_iinc (x := j) (n := 1) d_Pr_init_79 rfl (by decide) (by unfold R32; omega) (L' := [vR a, vI ((j + 1 : Nat) : Int)]) rfl ?_
    refine q_goto (tgt := 60) d_Pr_init_82 (by decide) ?_
    have go := ih (j + 1) D' (by omega) fun c hc => by rw [e, oneD_off (by omega)]; exact hD c (by omega)
    rw [show a + 11 + 5 * (j + 1) = a + 11 + 5 * j + 5 by omega, show 10 + (j + 1) * 5 = 10 + j * 5 + 1 + 4 by omega, show 354 + (j + 1) * 70 = 354 + j * 70 + 2 + 68 by omega] at go
    exact go
end PRJ
