/-! THE LAW'S BEGINNING -/
section LB
variable {L : Nat} {xs : Nat → Int32}
def P0 : st_P := (0, 0, fun _ => 0)
def S0 : Nat → sg_S := fun j => if j = 0 then beginF zS 3 2 2 1 else if j < 13 then zS else if j < 16 then tS else anD dS 3 2 2 1
theorem gU_hb : gU 3 = hb_c P0 := by
  refine hb_eq rfl rfl ?_ ?_ rfl ?_ (fun a q0 q1 q2 q3 q4 q5 => ?_)
  · rfl
  · rfl
  · rfl
  · unfold gU gK gS8 gS7 gS6 gS5 bP gS4 gS3 gS2 gS1 va_up
    simp [q0, q1, q2, q3, q4, q5, f0]
theorem start_HP : CH ((sgD, 98, anD dS 3 2 2 1) :: tl 3) (109, 1605, gU 3) = HP P0 S0 := by
  rw [gU_hb]
  have mv : CH ([(sgM, 85, zS), (sgM, 78, zS)] ++ rl 8) (ob sgX (CH [(sgM, 8, zS), (sgM, 1, beginF zS 3 2 2 1)] (HB P0)) 15 zS) = ob sgX (CH ([(sgM, 85, zS), (sgM, 78, zS)] ++ rl 8) (CH [(sgM, 8, zS), (sgM, 1, beginF zS 3 2 2 1)] (HB P0))) 15 zS := by
    refine CH_mid (σ := sgX) (fun q hq => ?_)
    have : ∀ i, ∀ q ∈ rl i, 15 + 1 < q.2.1 := by
      intro i
      induction i with
      | zero => intro q hq; exact absurd hq (by simp [rl])
      | succ i ih =>
        intro q hq
        rcases List.mem_cons.mp hq with rfl | hq
        · show 15 + 1 < 19 + 7 * i; omega
        · exact ih q hq
    rcases List.mem_append.mp hq with hq | hq
    · simp only [List.mem_cons, List.not_mem_nil, or_false] at hq
      rcases hq with rfl | rfl
      · exact Or.inl (show 15 + 1 < 85 by decide)
      · exact Or.inl (show 15 + 1 < 78 by decide)
    · exact Or.inl (this 8 q hq)
  exact congrArg (fun z => ob sgD (ob sgT (ob sgT (ob sgT z 92 tS) 94 tS) 96 tS) 98 (anD dS 3 2 2 1)) mv
end LB
