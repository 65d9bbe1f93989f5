/-! THE PAST, NEW -/
theorem ouT_nil {a : Nat} : ouT [] a := fun _ h => absurd h (by simp)
theorem ouT_cons {q : ch_E} {l : List ch_E} {a : Nat} (h1 : a < q.2.1 ∨ q.2.1 + q.1.2.2.2.1 < a) (h2 : ouT l a) : ouT (q :: l) a := fun z hz => by
  rcases List.mem_cons.mp hz with rfl | hz
  · exact h1
  · exact h2 z hz
theorem ouT_app {l l' : List ch_E} {a : Nat} (h1 : ouT l a) (h2 : ouT l' a) : ouT (l ++ l') a := fun z hz => by
  rcases List.mem_append.mp hz with hz | hz
  · exact h1 z hz
  · exact h2 z hz
section NP
variable {L : Nat} {xs : Nat → Int32} {H : am_H} {l : List ch_E} {b : Nat}
theorem initM_CH (e : H.1 = b) : am_ok L xs m_X0_init [.ref b] (am_push (CH l H) (am_df 0).length (.inr (0, am_df 0))) none (CH ((sgM, b, zS) :: l) (gr H (b + 7) (H.2.1 + 56))) := by
  have := ok_initM (L := L) (xs := xs) (h := CH l H) (b := b) (by rw [CH_1]; exact e)
  rw [CH_2, CH_gr] at this
  exact this
theorem initT_CH (e : H.1 = b) : am_ok L xs m_X2_init [.ref b] (am_push (CH l H) (am_df 2).length (.inr (2, am_df 2))) none (CH ((sgT, b, (upd (fun _ => 0) 2 1, fun _ _ => 0)) :: l) (gr H (b + 2) (H.2.1 + 11))) := by
  have := ok_initT (L := L) (xs := xs) (h := CH l H) (b := b) (by rw [CH_1]; exact e)
  rw [CH_2, CH_gr] at this
  exact this
theorem initX_CH (e : H.1 = b) : am_ok L xs m_X3_init [.ref b] (am_push (CH l H) (am_df 3).length (.inr (3, am_df 3))) none (CH ((sgX, b, zS) :: l) (gr H (b + 2) (H.2.1 + 206))) := by
  have := ok_initX (L := L) (xs := xs) (h := CH l H) (b := b) (by rw [CH_1]; exact e)
  rw [CH_2, CH_gr] at this
  exact this
def rl : Nat → List ch_E
  | 0 => []
  | i + 1 => (sgM, 19 + 7 * i, zS) :: rl i
theorem rl_ou {a : Nat} (h : a < 19) : ∀ i, ouT (rl i) a := by
  intro i
  induction i with
  | zero => exact ouT_nil
  | succ i ih => exact ouT_cons (Or.inl (by show a < 19 + 7 * i; omega)) ih
def ringA (n i : Nat) (f : Nat → Nat) : am_C := .inl (.object (am_cn 0), n, .inr (.inr (.inr (.inr (fun k => if k < i then some (f k) else none)))))
def bP (F : Nat → am_C) (i : Nat) : Nat → am_C := va_up (va_up F 17 (.inr (1, [.ref 18, .int 0, .int 0]))) 18 (ringA 8 i (fun k => 19 + 7 * k))
theorem mc_X1 : tm_mc m_X1_init = 57 ∧ tm_ms m_X1_init = 456 := by decide +kernel
theorem mcs_X0 : tm_mcs m_X0_init = (6, 45) := by decide +kernel
theorem ok_initP {s : Nat} {F : Nat → am_C} (hl : ∀ a, 17 ≤ a → ouT l a) : am_ok L xs m_X1_init [.ref 17] (CH l (18, s, va_up F 17 (.inr (1, am_df 1)))) none (CH (rl 8 ++ l) (75, s + 456, bP F 8)) := by
  have m1 := mc_X1.1
  have m2 := mc_X1.2
  refine en_X1_init (by rw [CH_1, CH_1]) (by rw [CH_2, CH_2]) (ch_X1_init_0 ?_)
  simp only [cl_8]
  have h0 : am_push (CH l (18, s, va_up F 17 (.inr (1, am_df 1)))) 8 (.inl (.object (am_cn 0), 8, .inr (.inr (.inr (.inr (fun _ => none)))))) = CH l (19, s + 8, va_up (va_up F 17 (.inr (1, am_df 1))) 18 (.inl (.object (am_cn 0), 8, .inr (.inr (.inr (.inr (fun _ => none))))))) := CH_push (hl 18 (by omega))
  refine ⟨⟨by decide +kernel, by decide⟩, ⟨by rw [CH_1, m1]; show 18 + 1 ≤ 18 + 57; omega, by rw [CH_2, m2]; show s + 8 ≤ s + 456; omega⟩, ?_⟩
  rw [h0, show Prod.fst (CH l (18, s, va_up F 17 (.inr (1, am_df 1)))) = 18 from CH_1 _ _]
  have e0 : (va_up (va_up (va_up F 17 (.inr (1, am_df 1))) 18 (.inl (.object (am_cn 0), 8, .inr (.inr (.inr (.inr (fun _ => none))))))) 17 (.inr (1, [.ref 18, .int 0, .int 0])) : Nat → am_C) = bP F 0 := by
    funext a
    unfold bP va_up
    by_cases q : a = 17
    · subst q; rfl
    · by_cases q2 : a = 18
      · subst q2
        simp [ringA]
      · simp [q, q2]
  have p0 : am_pF (CH l (19, s + 8, va_up (va_up F 17 (.inr (1, am_df 1))) 18 (.inl (.object (am_cn 0), 8, .inr (.inr (.inr (.inr (fun _ => none)))))))) 17 1 0 (.ref 18) = some (CH l (19, s + 8, bP F 0)) := by
    refine CH_pF (hl 17 (by omega)) ?_
    rw [← e0]
    rfl
  rw [p0, am_b_some]
  have key := up_to (P := fun i => am_wa L xs m_X1_init (CH l (18, s, va_up F 17 (.inr (1, am_df 1)))) none (CH (rl 8 ++ l) (75, s + 456, bP F 8)) 15 [.ref 17, .int (nI i)] [] (CH (rl i ++ l) (19 + 7 * i, s + 8 + 56 * i, bP F i))) 8 ?_ ?_ 0 (by omega)
  · exact key
  · refine ch_X1_init_15 ?_
    rw [if_neg (by decide +kernel)]
    exact ⟨rfl, rfl⟩
  · intro i hi ih
    have o17 : ouT (rl i ++ l) 17 := ouT_app (rl_ou (by omega) i) (hl 17 (by omega))
    have o18 : ouT ((sgM, 19 + 7 * i, zS) :: (rl i ++ l)) 18 := ouT_app (rl_ou (by omega) (i + 1)) (hl 18 (by omega))
    refine ch_X1_init_15 ?_
    rw [if_pos (show nI i < 8 from nI_lt (b := 8) hi (by omega))]
    rw [CH_gR (x := 18) o17 (by
      unfold am_gR am_fld
      rw [am_look_of (show 17 < 19 + 7 * i by omega) (show bP F i 17 = .inr (1, [.ref 18, .int 0, .int 0]) from rfl)]
      rfl), am_b_some]
    have e1 : Prod.fst (CH (rl i ++ l) (19 + 7 * i, s + 8 + 56 * i, bP F i)) = 19 + 7 * i := CH_1 _ _
    rw [e1]
    have call := initM_CH (L := L) (xs := xs) (l := rl i ++ l) (H := (19 + 7 * i, s + 8 + 56 * i, bP F i)) (b := 19 + 7 * i) rfl
    refine ⟨⟨?_, ?_⟩, _, ⟨call, ?_, ?_⟩, ?_⟩
    · rw [CH_1, CH_1, m1]; show 19 + 7 * i + 1 ≤ 18 + 57; omega
    · rw [CH_2, CH_2, m2]; show s + 8 + 56 * i + 11 ≤ s + 456; omega
    · show (CH (rl i ++ l) (19 + 7 * i, s + 8 + 56 * i, bP F i)).1 + 1 + (tm_mcs m_X0_init).1 ≤ (CH l (18, s, va_up F 17 (.inr (1, am_df 1)))).1 + tm_mc m_X1_init
      rw [CH_1, CH_1, m1, mcs_X0]; show 19 + 7 * i + 1 + 6 ≤ 18 + 57; omega
    · show (CH (rl i ++ l) (19 + 7 * i, s + 8 + 56 * i, bP F i)).2.1 + (am_df 0).length + (tm_mcs m_X0_init).2 ≤ (CH l (18, s, va_up F 17 (.inr (1, am_df 1)))).2.1 + tm_ms m_X1_init
      rw [CH_2, CH_2, m2, mcs_X0]; show s + 8 + 56 * i + 11 + 45 ≤ s + 456; omega
    · have sa : am_sA (CH ((sgM, 19 + 7 * i, zS) :: (rl i ++ l)) (gr (19 + 7 * i, s + 8 + 56 * i, bP F i) (19 + 7 * i + 7) (s + 8 + 56 * i + 56))) (am_cn 0) 0 18 (nI i) (19 + 7 * i) = some (CH ((sgM, 19 + 7 * i, zS) :: (rl i ++ l)) (19 + 7 * (i + 1), s + 8 + 56 * (i + 1), bP F (i + 1))) := by
        refine CH_sA o18 (ob_cls (σ := sgM) (by rw [CH_1]; show 19 + 7 * i < 19 + 7 * i + 7; omega)) ⟨8, fun k => if k < i then some (19 + 7 * k) else none, ?_, ?_, ?_⟩
        · unfold am_rr
          rw [am_look_of (h := gr (19 + 7 * i, s + 8 + 56 * i, bP F i) (19 + 7 * i + 7) (s + 8 + 56 * i + 56)) (show 18 < 19 + 7 * i + 7 by omega) (show bP F i 18 = ringA 8 i (fun k => 19 + 7 * k) from rfl)]
          rfl
        · exact nI_in hi (by omega)
        · refine Prod.ext (by show 19 + 7 * (i + 1) = 19 + 7 * i + 7; omega) (Prod.ext (by show s + 8 + 56 * (i + 1) = s + 8 + 56 * i + 56; omega) ?_)
          show bP F (i + 1) = va_up (bP F i) 18 _
          unfold bP
          rw [vu_vu]
          congr 1
          unfold ringA
          rw [nI_clamp (by omega)]
          congr 7
          funext k
          unfold va_up
          by_cases q : k = i
          · rw [if_pos q, if_pos (by omega), q]
          · rw [if_neg q]
            show (if k < i + 1 then some (19 + 7 * k) else none) = (if k < i then some (19 + 7 * k) else none)
            by_cases q2 : k < i
            · rw [if_pos q2, if_pos (by omega)]
            · rw [if_neg q2, if_neg (by omega)]
      refine am_b_of sa ?_
      rw [← nI_succ]
      exact ih
end NP
