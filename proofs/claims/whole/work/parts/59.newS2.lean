/-! THE CLASS, NEW: its first half -/
section NT
variable {L : Nat} {xs : Nat → Int32}
def hS : am_H := am_push (0, 0, f0) (am_df 4).length (.inr (4, am_df 4))
theorem alS {h : am_H} {n m : Nat} (x y : Nat) (hx : h.1 = x) (hy : h.2.1 = y) (h1 : x + n ≤ 98) (h2 : y + m ≤ 936) : am_Al m_X4_init hS h n m := by
  refine ⟨?_, ?_⟩
  · rw [mc_X4.1, hx]; show x + n ≤ 1 + 97; omega
  · rw [mc_X4.2, hy]; show y + m ≤ 7 + 929; omega
def l3 : List ch_E := [(sgX, 15, zS), (sgM, 8, zS), (sgM, 1, zS)]
def gS1 : Nat → am_C := va_up f0 0 (.inr (4, am_df 4))
def gS2 : Nat → am_C := va_up gS1 0 (.inr (4, [.ref 1, .null, .null, .null, .null, .null, .null]))
def gS3 : Nat → am_C := va_up gS2 0 (.inr (4, [.ref 1, .ref 8, .null, .null, .null, .null, .null]))
def gS4 : Nat → am_C := va_up gS3 0 (.inr (4, [.ref 1, .ref 8, .ref 15, .null, .null, .null, .null]))
def gS5 : Nat → am_C := va_up (bP gS4 8) 0 (.inr (4, [.ref 1, .ref 8, .ref 15, .ref 17, .null, .null, .null]))
def oA (ci n : Nat) : am_C := .inl (.object (am_cn ci), n, .inr (.inr (.inr (.inr (fun _ => none)))))
def gS6 : Nat → am_C := va_up (va_up gS5 75 (oA 0 2)) 0 (.inr (4, [.ref 1, .ref 8, .ref 15, .ref 17, .ref 75, .null, .null]))
def gS7 : Nat → am_C := va_up (va_up gS6 76 (.inl (.boolean, 2, .inl (fun _ => 0)))) 0 (.inr (4, [.ref 1, .ref 8, .ref 15, .ref 17, .ref 75, .ref 76, .null]))
def gS8 : Nat → am_C := va_up (va_up gS7 77 (oA 2 3)) 0 (.inr (4, [.ref 1, .ref 8, .ref 15, .ref 17, .ref 75, .ref 76, .ref 77]))
theorem l3_ou {a : Nat} (h : a = 0 ∨ 17 ≤ a) : ouT l3 a := ouT_cons (by show a < 15 ∨ 15 + 1 < a; omega) (ouT_cons (by show a < 8 ∨ 8 + 6 < a; omega) (ouT_cons (by show a < 1 ∨ 1 + 6 < a; omega) ouT_nil))
theorem l9_ou {a : Nat} (h : a = 0 ∨ 75 ≤ a) : ouT (rl 8 ++ l3) a := by
  refine ouT_app ?_ (l3_ou (by omega))
  rcases h with h | h
  · exact rl_ou (by omega) 8
  · exact rl_up h 8 (by omega)
theorem ok_initS1 {E : am_H} (K : am_wa L xs m_X4_init hS none E 84 [.ref 0, .int 0] [] (CH (rl 8 ++ [(sgX, 15, zS), (sgM, 8, zS), (sgM, 1, beginF zS 3 2 2 1)]) (78, 791, gS8))) : am_wa L xs m_X4_init hS none E 0 [.ref 0, .null] [] hS := by
  refine ch_X4_init_0 ?_
  have c1 := initM_CH (L := L) (xs := xs) (l := []) (H := (1, 7, gS1)) (b := 1) rfl
  refine ⟨alS 1 7 rfl rfl (by decide) (by decide), _, ⟨c1, alS 2 18 rfl rfl (by rw [mcs_X0]; decide) (by rw [mcs_X0]; decide)⟩, ?_⟩
  refine am_b_of (pF0 (l := [(sgM, 1, zS)]) (n := 8) (s := 63) (G := gS1) (fs := am_df 4) (k := 0) (v := .ref 1) (ouT_cons (by decide) ouT_nil) (by decide) rfl (by decide)) ?_
  have c2 := initM_CH (L := L) (xs := xs) (l := [(sgM, 1, zS)]) (H := (8, 63, gS2)) (b := 8) rfl
  refine ⟨alS 8 63 rfl rfl (by decide) (by decide), _, ⟨c2, alS 9 74 rfl rfl (by rw [mcs_X0]; decide) (by rw [mcs_X0]; decide)⟩, ?_⟩
  refine am_b_of (pF0 (l := [(sgM, 8, zS), (sgM, 1, zS)]) (n := 15) (s := 119) (G := gS2) (fs := [.ref 1, .null, .null, .null, .null, .null, .null]) (k := 1) (v := .ref 8) (ouT_cons (by decide) (ouT_cons (by decide) ouT_nil)) (by decide) rfl (by decide)) ?_
  have c3 := initX_CH (L := L) (xs := xs) (l := [(sgM, 8, zS), (sgM, 1, zS)]) (H := (15, 119, gS3)) (b := 15) rfl
  refine ⟨alS 15 119 rfl rfl (by decide) (by decide), _, ⟨c3, alS 16 125 rfl rfl (by rw [mcs_X3]; decide) (by rw [mcs_X3]; decide)⟩, ?_⟩
  refine am_b_of (pF0 (l := l3) (n := 17) (s := 325) (G := gS3) (fs := [.ref 1, .ref 8, .null, .null, .null, .null, .null]) (k := 2) (v := .ref 15) (l3_ou (by omega)) (by decide) rfl (by decide)) ?_
  have hp : am_push (CH l3 (17, 325, gS4)) (am_df 1).length (.inr (1, am_df 1)) = CH l3 (18, 328, va_up gS4 17 (.inr (1, am_df 1))) := CH_push (l3_ou (by show (17 : Nat) = 0 ∨ 17 ≤ 17; omega))
  have c4 := ok_initP (L := L) (xs := xs) (l := l3) (s := 328) (F := gS4) (fun a ha => l3_ou (by omega))
  rw [← hp] at c4
  refine ⟨alS 17 325 rfl rfl (by decide) (by decide), _, ⟨c4, alS 18 328 rfl rfl (by rw [mcs_X1]; decide) (by rw [mcs_X1]; decide)⟩, ?_⟩
  refine am_b_of (pF0 (l := rl 8 ++ l3) (n := 75) (s := 784) (G := bP gS4 8) (fs := [.ref 1, .ref 8, .ref 15, .null, .null, .null, .null]) (k := 3) (v := .ref 17) (l9_ou (by omega)) (by decide) rfl (by decide)) ?_
  simp only [cl_n.2.1, cl_n.2.2.1]
  have q5 : am_push (CH (rl 8 ++ l3) (75, 784, gS5)) 2 (oA 0 2) = CH (rl 8 ++ l3) (76, 786, va_up gS5 75 (oA 0 2)) := CH_push (l9_ou (by show (75 : Nat) = 0 ∨ 75 ≤ 75; omega))
  refine ⟨⟨by decide +kernel, by decide⟩, alS 75 784 rfl rfl (by decide) (by decide), ?_⟩
  refine am_b_of ((congrArg (fun z => am_pF z 0 4 4 (.ref 75)) q5).trans (pF0 (l := rl 8 ++ l3) (n := 76) (s := 786) (G := va_up gS5 75 (oA 0 2)) (fs := [.ref 1, .ref 8, .ref 15, .ref 17, .null, .null, .null]) (k := 4) (v := .ref 75) (l9_ou (by omega)) (by decide) rfl (by decide))) ?_
  have q6 : am_push (CH (rl 8 ++ l3) (76, 786, gS6)) 2 (.inl (.boolean, 2, .inl (fun _ => 0))) = CH (rl 8 ++ l3) (77, 788, va_up gS6 76 (.inl (.boolean, 2, .inl (fun _ => 0)))) := CH_push (l9_ou (by show (76 : Nat) = 0 ∨ 75 ≤ 76; omega))
  refine ⟨⟨by decide +kernel, by decide⟩, alS 76 786 rfl rfl (by decide) (by decide), ?_⟩
  refine am_b_of ((congrArg (fun z => am_pF z 0 4 5 (.ref 76)) q6).trans (pF0 (l := rl 8 ++ l3) (n := 77) (s := 788) (G := va_up gS6 76 (.inl (.boolean, 2, .inl (fun _ => 0)))) (fs := [.ref 1, .ref 8, .ref 15, .ref 17, .ref 75, .null, .null]) (k := 5) (v := .ref 76) (l9_ou (by omega)) (by decide) rfl (by decide))) ?_
  have q7 : am_push (CH (rl 8 ++ l3) (77, 788, gS7)) 3 (oA 2 3) = CH (rl 8 ++ l3) (78, 791, va_up gS7 77 (oA 2 3)) := CH_push (l9_ou (by show (77 : Nat) = 0 ∨ 75 ≤ 77; omega))
  refine ⟨⟨by decide +kernel, by decide⟩, alS 77 788 rfl rfl (by decide) (by decide), ?_⟩
  refine am_b_of ((congrArg (fun z => am_pF z 0 4 6 (.ref 77)) q7).trans (pF0 (l := rl 8 ++ l3) (n := 78) (s := 791) (G := va_up gS7 77 (oA 2 3)) (fs := [.ref 1, .ref 8, .ref 15, .ref 17, .ref 75, .ref 76, .null]) (k := 6) (v := .ref 77) (l9_ou (by omega)) (by decide) rfl (by decide))) ?_
  refine am_b_of (CH_gR (x := 1) (l9_ou (by omega)) rfl) ?_
  have sp : ∀ N : sg_S, CH (rl 8 ++ [(sgX, 15, zS), (sgM, 8, zS), (sgM, 1, N)]) (78, 791, gS8) = ob sgM (CH (rl 8 ++ [(sgX, 15, zS), (sgM, 8, zS)]) (78, 791, gS8)) 1 N := by
    intro N
    rw [show rl 8 ++ [(sgX, 15, zS), (sgM, 8, zS), (sgM, 1, N)] = (rl 8 ++ [(sgX, 15, zS), (sgM, 8, zS)]) ++ [(sgM, 1, N)] by simp, CH_app]
    refine CH_mid (σ := sgM) (fun q hq => ?_)
    rcases List.mem_append.mp hq with hq | hq
    · have : ∀ i, ∀ q ∈ rl i, 1 + 6 < q.2.1 := by
        intro i
        induction i with
        | zero => intro q hq; exact absurd hq (by simp [rl])
        | succ i ih =>
          intro q hq
          rcases List.mem_cons.mp hq with rfl | hq
          · show 1 + 6 < 19 + 7 * i; omega
          · exact ih q hq
      exact Or.inl (this 8 q hq)
    · simp only [List.mem_cons, List.not_mem_nil, or_false] at hq
      rcases hq with rfl | rfl
      · exact Or.inl (show 1 + 6 < 15 by decide)
      · exact Or.inl (show 1 + 6 < 8 by decide)
  have bg := ok_begin (L := L) (xs := xs) (h := CH (rl 8 ++ [(sgX, 15, zS), (sgM, 8, zS)]) (78, 791, gS8)) (b := 1) (M := zS) (x0 := 3) (x1 := 2) (x2 := 2) (x3 := 1) (by rw [CH_1]; decide)
  rw [← sp, ← sp] at bg
  exact ⟨_, bg, K⟩
end NT
