/-! THE CLASS, NEW: its second half -/
section NU2
variable {L : Nat} {xs : Nat → Int32}
def lnL : List ch_E := rl 8 ++ [(sgX, 15, zS), (sgM, 8, zS), (sgM, 1, beginF zS 3 2 2 1)]
theorem lnL_ou {a : Nat} (h : a = 0 ∨ 75 ≤ a) : ouT lnL a := by
  unfold lnL
  refine ouT_app ?_ (ouT_cons (by show a < 15 ∨ 15 + 1 < a; omega) (ouT_cons (by show a < 8 ∨ 8 + 6 < a; omega) (ouT_cons (by show a < 1 ∨ 1 + 6 < a; omega) ouT_nil)))
  rcases h with h | h
  · exact rl_ou (by omega) 8
  · exact rl_up h 8 (by omega)
def kl : Nat → List ch_E
  | 0 => lnL
  | i + 1 => (sgM, 78 + 7 * i, zS) :: kl i
def tl : Nat → List ch_E
  | 0 => kl 2
  | i + 1 => (sgT, 92 + 2 * i, tS) :: tl i
theorem kl_ou {a : Nat} (h : a = 0 ∨ (75 ≤ a ∧ a < 78) ∨ 92 ≤ a) : ∀ i, i ≤ 2 → ouT (kl i) a := by
  intro i
  induction i with
  | zero => intro _; exact lnL_ou (by omega)
  | succ i ih => intro hi; exact ouT_cons (by show a < 78 + 7 * i ∨ 78 + 7 * i + 6 < a; omega) (ih (by omega))
theorem tl_ou {a : Nat} (h : a = 0 ∨ (75 ≤ a ∧ a < 78) ∨ 98 ≤ a) : ∀ i, i ≤ 3 → ouT (tl i) a := by
  intro i
  induction i with
  | zero => intro _; exact kl_ou (by omega) 2 (by omega)
  | succ i ih => intro hi; exact ouT_cons (by show a < 92 + 2 * i ∨ 92 + 2 * i + 1 < a; omega) (ih (by omega))
def rgA (ci n i : Nat) (f : Nat → Nat) : am_C := .inl (.object (am_cn ci), n, .inr (.inr (.inr (.inr (fun k => if k < i then some (f k) else none)))))
def gK (i : Nat) : Nat → am_C := va_up gS8 75 (rgA 0 2 i (fun k => 78 + 7 * k))
def gU (i : Nat) : Nat → am_C := va_up (gK 2) 77 (rgA 2 3 i (fun k => 92 + 2 * k))
theorem rg_s {ci n i : Nat} {f : Nat → Nat} (hi : i < 2 ^ 31) : rgA ci n (i + 1) f = .inl (.object (am_cn ci), n, .inr (.inr (.inr (.inr (va_up (fun k => if k < i then some (f k) else none) (nI i).toNatClampNeg (some (f i))))))) := by
  unfold rgA
  rw [nI_clamp hi]
  congr 7
  funext k
  unfold va_up
  by_cases q : k = i
  · rw [if_pos q, if_pos (by omega), q]
  · rw [if_neg q]
    show (if k < i + 1 then some (f k) else none) = (if k < i then some (f k) else none)
    by_cases q2 : k < i
    · rw [if_pos q2, if_pos (by omega)]
    · rw [if_neg q2, if_neg (by omega)]
theorem gK_0 : gK 0 = gS8 := by
  funext a
  unfold gK va_up
  by_cases q : a = 75
  · subst q
    rw [if_pos rfl]
    simp [rgA, gS8, gS7, gS6, oA, va_up]
  · rw [if_neg q]
theorem gU_0 : gU 0 = gK 2 := by
  funext a
  unfold gU va_up
  by_cases q : a = 77
  · subst q
    rw [if_pos rfl]
    simp [rgA, gK, gS8, oA, va_up]
  · rw [if_neg q]
theorem ok_initS2 : am_ok L xs m_X4_init [.ref 0] hS none (CH (tl 3) (98, 936, gU 3)) := by
  refine en_X4_init (by rw [CH_1]; rfl) (by rw [CH_2]; rfl) (ok_initS1 ?_)
  have key := up_to (P := fun i => am_wa L xs m_X4_init hS none (CH (tl 3) (98, 936, gU 3)) 84 [.ref 0, .int (nI i)] [] (CH (kl i) (78 + 7 * i, 791 + 56 * i, gK i))) 2 ?_ ?_ 0 (by omega)
  · rw [gK_0] at key
    exact key
  · refine ch_X4_init_84 ?_
    rw [if_neg (by decide +kernel)]
    have key := up_to (P := fun i => am_wa L xs m_X4_init hS none (CH (tl 3) (98, 936, gU 3)) 110 [.ref 0, .int (nI i)] [] (CH (tl i) (92 + 2 * i, 903 + 11 * i, gU i))) 3 ?_ ?_ 0 (by omega)
    · rw [gU_0] at key
      exact key
    · refine ch_X4_init_110 ?_
      rw [if_neg (by decide +kernel)]
      exact ⟨rfl, rfl⟩
    · intro i hi ih
      refine ch_X4_init_110 ?_
      rw [if_pos (show nI i < 3 from nI_lt (b := 3) hi (by omega))]
      refine am_b_of (CH_gR (x := 77) (tl_ou (by omega) i (by omega)) (by
        unfold am_gR am_fld
        rw [am_look_of (show 0 < 92 + 2 * i by omega) (show gU i 0 = .inr (4, [.ref 1, .ref 8, .ref 15, .ref 17, .ref 75, .ref 76, .ref 77]) from rfl)]
        rfl)) ?_
      have e1 : Prod.fst (CH (tl i) (92 + 2 * i, 903 + 11 * i, gU i)) = 92 + 2 * i := CH_1 _ _
      rw [e1]
      have call := initT_CH (L := L) (xs := xs) (l := tl i) (H := (92 + 2 * i, 903 + 11 * i, gU i)) (b := 92 + 2 * i) rfl
      refine ⟨alS (92 + 2 * i) (903 + 11 * i) (CH_1 _ _) (CH_2 _ _) (by omega) (by show 903 + 11 * i + 3 ≤ 936; omega), _, ⟨call, alS (92 + 2 * i + 1) (903 + 11 * i + 3) (by show (CH _ _).1 + 1 = _; rw [CH_1]) (by show (CH _ _).2.1 + 3 = _; rw [CH_2]) (by rw [mcs_X2]; show 92 + 2 * i + 1 + 1 ≤ 98; omega) (by rw [mcs_X2]; show 903 + 11 * i + 3 + 8 ≤ 936; omega)⟩, ?_⟩
      have sa : am_sA (CH ((sgT, 92 + 2 * i, tS) :: tl i) (gr (92 + 2 * i, 903 + 11 * i, gU i) (92 + 2 * i + 2) (903 + 11 * i + 11))) (am_cn 2) 2 77 (nI i) (92 + 2 * i) = some (CH ((sgT, 92 + 2 * i, tS) :: tl i) (92 + 2 * (i + 1), 903 + 11 * (i + 1), gU (i + 1))) := by
        refine CH_sA (tl_ou (by omega) (i + 1) (by omega)) (ob_cls (σ := sgT) (by rw [CH_1]; show 92 + 2 * i < 92 + 2 * i + 2; omega)) ⟨3, fun k => if k < i then some (92 + 2 * k) else none, ?_, nI_in hi (by omega), ?_⟩
        · unfold am_rr
          rw [am_look_of (h := gr (92 + 2 * i, 903 + 11 * i, gU i) (92 + 2 * i + 2) (903 + 11 * i + 11)) (show 77 < 92 + 2 * i + 2 by omega) (show gU i 77 = rgA 2 3 i (fun k => 92 + 2 * k) from rfl)]
          rfl
        · refine Prod.ext (by show 92 + 2 * (i + 1) = 92 + 2 * i + 2; omega) (Prod.ext (by show 903 + 11 * (i + 1) = 903 + 11 * i + 11; omega) ?_)
          show gU (i + 1) = va_up (gU i) 77 _
          unfold gU
          rw [vu_vu, rg_s (by omega)]
      refine am_b_of sa ?_
      rw [← nI_succ]
      exact ih
  · intro i hi ih
    refine ch_X4_init_84 ?_
    rw [if_pos (show nI i < 2 from nI_lt (b := 2) hi (by omega))]
    refine am_b_of (CH_gR (x := 75) (kl_ou (by omega) i (by omega)) (by
      unfold am_gR am_fld
      rw [am_look_of (show 0 < 78 + 7 * i by omega) (show gK i 0 = .inr (4, [.ref 1, .ref 8, .ref 15, .ref 17, .ref 75, .ref 76, .ref 77]) from rfl)]
      rfl)) ?_
    have e1 : Prod.fst (CH (kl i) (78 + 7 * i, 791 + 56 * i, gK i)) = 78 + 7 * i := CH_1 _ _
    rw [e1]
    have call := initM_CH (L := L) (xs := xs) (l := kl i) (H := (78 + 7 * i, 791 + 56 * i, gK i)) (b := 78 + 7 * i) rfl
    refine ⟨alS (78 + 7 * i) (791 + 56 * i) (CH_1 _ _) (CH_2 _ _) (by omega) (by show 791 + 56 * i + 11 ≤ 936; omega), _, ⟨call, alS (78 + 7 * i + 1) (791 + 56 * i + 11) (by show (CH _ _).1 + 1 = _; rw [CH_1]) (by show (CH _ _).2.1 + 11 = _; rw [CH_2]) (by rw [mcs_X0]; show 78 + 7 * i + 1 + 6 ≤ 98; omega) (by rw [mcs_X0]; show 791 + 56 * i + 11 + 45 ≤ 936; omega)⟩, ?_⟩
    have sa : am_sA (CH ((sgM, 78 + 7 * i, zS) :: kl i) (gr (78 + 7 * i, 791 + 56 * i, gK i) (78 + 7 * i + 7) (791 + 56 * i + 56))) (am_cn 0) 0 75 (nI i) (78 + 7 * i) = some (CH ((sgM, 78 + 7 * i, zS) :: kl i) (78 + 7 * (i + 1), 791 + 56 * (i + 1), gK (i + 1))) := by
      refine CH_sA (kl_ou (by omega) (i + 1) (by omega)) (ob_cls (σ := sgM) (by rw [CH_1]; show 78 + 7 * i < 78 + 7 * i + 7; omega)) ⟨2, fun k => if k < i then some (78 + 7 * k) else none, ?_, nI_in hi (by omega), ?_⟩
      · unfold am_rr
        rw [am_look_of (h := gr (78 + 7 * i, 791 + 56 * i, gK i) (78 + 7 * i + 7) (791 + 56 * i + 56)) (show 75 < 78 + 7 * i + 7 by omega) (show gK i 75 = rgA 0 2 i (fun k => 78 + 7 * k) from rfl)]
        rfl
      · refine Prod.ext (by show 78 + 7 * (i + 1) = 78 + 7 * i + 7; omega) (Prod.ext (by show 791 + 56 * (i + 1) = 791 + 56 * i + 56; omega) ?_)
        show gK (i + 1) = va_up (gK i) 75 _
        unfold gK
        rw [vu_vu, rg_s (by omega)]
    refine am_b_of sa ?_
    rw [← nI_succ]
    exact ih
end NU2
