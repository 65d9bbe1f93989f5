/-! THE LAW'S LOOP -/
theorem lw_c {L i : Nat} (h : i ≤ L) (hL : L < 2 ^ 31) (he : L < i + 6) : (nI L - 6) < nI i := by
  have e1 : (nI L - 6).toInt = (L : Int) - 6 := by
    have z : (6 : Int32).toInt = 6 := by decide +kernel
    rw [fb_subI (by rw [nI_toInt hL, z]; omega) (by rw [nI_toInt hL, z]; omega), nI_toInt hL, z]
  rw [Int32.lt_iff_toInt_lt, e1, nI_toInt (by omega)]
  omega
theorem lw_cn {L i : Nat} (h : i ≤ L) (hL : L < 2 ^ 31) (he : ¬ L < i + 6) : ¬ (nI L - 6) < nI i := by
  have e1 : (nI L - 6).toInt = (L : Int) - 6 := by
    have z : (6 : Int32).toInt = 6 := by decide +kernel
    rw [fb_subI (by rw [nI_toInt hL, z]; omega) (by rw [nI_toInt hL, z]; omega), nI_toInt hL, z]
  rw [Int32.lt_iff_toInt_lt, e1, nI_toInt (by omega)]
  omega
section LL
variable {L : Nat} {xs : Nat → Int32}
theorem lw_in {i j : Nat} (h : i + 6 ≤ L) (hL : L < 2 ^ 31) (hj : j < 6) : ¬ (nI (i + j) < 0 ∨ L ≤ (nI (i + j)).toNatClampNeg) := nI_in (by omega) hL
theorem lw_loop (hL : L < 2 ^ 31) : ∀ d i (P : st_P) (S : Nat → sg_S), L - i ≤ d → i ≤ L → INV P S → ∃ P' S', ∀ A, am_wa L xs m_L_law A (some 1) (HP P' S') 18 [.ref 1000000, .ref 0, .ref 98, .int (nI i)] [] (HP P S) := by
  intro d
  induction d with
  | zero =>
    intro i P S h1 h2 hI
    refine ⟨P, S, fun A => ch_L_law_18 (am_if_t rfl ?_)⟩
    rw [if_pos (lw_c (by omega) hL (by omega))]
    exact ⟨fit_1, rfl, rfl⟩
  | succ d ih =>
    intro i P S h1 h2 hI
    by_cases hend : L < i + 6
    · refine ⟨P, S, fun A => ch_L_law_18 (am_if_t rfl ?_)⟩
      rw [if_pos (lw_c h2 hL hend)]
      exact ⟨fit_1, rfl, rfl⟩
    · have hc : ¬ (nI L - 6) < nI i := lw_cn h2 hL hend
      have n6 : nI i + 6 = nI (i + 6) := nI_add i 6
      have a1 : nI i + 1 = nI (i + 1) := nI_add i 1
      have a2 : nI i + 2 = nI (i + 2) := nI_add i 2
      have a3 : nI i + 3 = nI (i + 3) := nI_add i 3
      have a4 : nI i + 4 = nI (i + 4) := nI_add i 4
      have a5 : nI i + 5 = nI (i + 5) := nI_add i 5
      have b0 : ¬ (nI i < 0 ∨ L ≤ (nI i).toNatClampNeg) := lw_in (j := 0) (by omega) hL (by omega)
      have b1 : ¬ (nI i + 1 < 0 ∨ L ≤ (nI i + 1).toNatClampNeg) := by rw [a1]; exact lw_in (by omega) hL (by omega)
      have b2 : ¬ (nI i + 2 < 0 ∨ L ≤ (nI i + 2).toNatClampNeg) := by rw [a2]; exact lw_in (by omega) hL (by omega)
      have b3 : ¬ (nI i + 3 < 0 ∨ L ≤ (nI i + 3).toNatClampNeg) := by rw [a3]; exact lw_in (by omega) hL (by omega)
      have b4 : ¬ (nI i + 4 < 0 ∨ L ≤ (nI i + 4).toNatClampNeg) := by rw [a4]; exact lw_in (by omega) hL (by omega)
      have b5 : ¬ (nI i + 5 < 0 ∨ L ≤ (nI i + 5).toNatClampNeg) := by rw [a5]; exact lw_in (by omega) hL (by omega)
      have nx := fun (P : st_P) (S : Nat → sg_S) (hI : INV P S) => ih (i + 6) P S (by omega) (by omega) hI
      obtain ⟨n, m, c, hIn⟩ := id hI
      by_cases q0 : (xs (nI i).toNatClampNeg) &&& 31 = nI 0
      · obtain ⟨x, P1, S1, hI1, cA, cB⟩ := both_write (L := L) (xs := xs) (a := xs (nI i + 1).toNatClampNeg) hIn
        obtain ⟨P2, S2, hw⟩ := nx P1 S1 hI1
        refine ⟨P2, S2, fun A => ch_L_law_18 (am_if_t rfl ?_)⟩
        rw [if_neg hc]
        refine am_if_t rfl ⟨b0, ⟨fun _ => ?_, fun z => absurd q0 z⟩⟩
        refine am_if_t rfl ⟨b1, ⟨_, _, cA, am_if_t rfl ⟨b1, ⟨_, _, cB, ?_⟩⟩⟩⟩
        rw [if_pos rfl, n6]
        exact hw A
      by_cases q1 : (xs (nI i).toNatClampNeg) &&& 31 = nI 1
      · obtain ⟨x, P1, S1, hI1, cA, cB⟩ := both_erase (L := L) (xs := xs)  hIn
        obtain ⟨P2, S2, hw⟩ := nx P1 S1 hI1
        refine ⟨P2, S2, fun A => ch_L_law_18 (am_if_t rfl ?_)⟩
        rw [if_neg hc]
        refine am_if_t rfl ⟨b0, ⟨fun z => absurd z q0, fun _ => ⟨fun _ => ?_, fun z => absurd q1 z⟩⟩⟩
        refine ⟨_, _, cA, ⟨_, _, cB, ?_⟩⟩
        rw [if_pos rfl, n6]
        exact hw A
      by_cases q2 : (xs (nI i).toNatClampNeg) &&& 31 = nI 2
      · obtain ⟨x, P1, S1, hI1, cA, cB⟩ := both_fault (L := L) (xs := xs)  hIn
        obtain ⟨P2, S2, hw⟩ := nx P1 S1 hI1
        refine ⟨P2, S2, fun A => ch_L_law_18 (am_if_t rfl ?_)⟩
        rw [if_neg hc]
        refine am_if_t rfl ⟨b0, ⟨fun z => absurd z q0, fun _ => ⟨fun z => absurd z q1, fun _ => ⟨fun _ => ?_, fun z => absurd q2 z⟩⟩⟩⟩
        refine ⟨_, _, cA, ⟨_, _, cB, ?_⟩⟩
        rw [if_pos rfl, n6]
        exact hw A
      by_cases q3 : (xs (nI i).toNatClampNeg) &&& 31 = nI 3
      · obtain ⟨x, P1, S1, hI1, cA, cB⟩ := both_mesh (L := L) (xs := xs)  hIn
        obtain ⟨P2, S2, hw⟩ := nx P1 S1 hI1
        refine ⟨P2, S2, fun A => ch_L_law_18 (am_if_t rfl ?_)⟩
        rw [if_neg hc]
        refine am_if_t rfl ⟨b0, ⟨fun z => absurd z q0, fun _ => ⟨fun z => absurd z q1, fun _ => ⟨fun z => absurd z q2, fun _ => ⟨fun _ => ?_, fun z => absurd q3 z⟩⟩⟩⟩⟩
        refine ⟨_, _, cA, ⟨_, _, cB, ?_⟩⟩
        rw [if_pos rfl, n6]
        exact hw A
      by_cases q4 : (xs (nI i).toNatClampNeg) &&& 31 = nI 4
      · obtain ⟨x, P1, S1, hI1, cA, cB⟩ := both_station (L := L) (xs := xs) (a := xs (nI i + 1).toNatClampNeg) (b := xs (nI i + 2).toNatClampNeg) hIn
        obtain ⟨P2, S2, hw⟩ := nx P1 S1 hI1
        refine ⟨P2, S2, fun A => ch_L_law_18 (am_if_t rfl ?_)⟩
        rw [if_neg hc]
        refine am_if_t rfl ⟨b0, ⟨fun z => absurd z q0, fun _ => ⟨fun z => absurd z q1, fun _ => ⟨fun z => absurd z q2, fun _ => ⟨fun z => absurd z q3, fun _ => ⟨fun _ => ?_, fun z => absurd q4 z⟩⟩⟩⟩⟩⟩
        refine am_if_t rfl ⟨b1, am_if_t rfl ⟨b2, ⟨_, _, cA, am_if_t rfl ⟨b1, am_if_t rfl ⟨b2, ⟨_, _, cB, ?_⟩⟩⟩⟩⟩⟩
        rw [if_pos rfl, n6]
        exact hw A
      by_cases q5 : (xs (nI i).toNatClampNeg) &&& 31 = nI 5
      · obtain ⟨x, P1, S1, hI1, cA, cB⟩ := both_slot (L := L) (xs := xs) (a := xs (nI i + 1).toNatClampNeg) (b := xs (nI i + 2).toNatClampNeg) hIn
        obtain ⟨P2, S2, hw⟩ := nx P1 S1 hI1
        refine ⟨P2, S2, fun A => ch_L_law_18 (am_if_t rfl ?_)⟩
        rw [if_neg hc]
        refine am_if_t rfl ⟨b0, ⟨fun z => absurd z q0, fun _ => ⟨fun z => absurd z q1, fun _ => ⟨fun z => absurd z q2, fun _ => ⟨fun z => absurd z q3, fun _ => ⟨fun z => absurd z q4, fun _ => ⟨fun _ => ?_, fun z => absurd q5 z⟩⟩⟩⟩⟩⟩⟩
        refine am_if_t rfl ⟨b1, am_if_t rfl ⟨b2, ⟨_, _, cA, am_if_t rfl ⟨b1, am_if_t rfl ⟨b2, ⟨_, _, cB, ?_⟩⟩⟩⟩⟩⟩
        rw [if_pos rfl, n6]
        exact hw A
      by_cases q6 : (xs (nI i).toNatClampNeg) &&& 31 = nI 6
      · obtain ⟨x, P1, S1, hI1, cA, cB⟩ := both_cycle (L := L) (xs := xs) (a := xs (nI i + 1).toNatClampNeg) hIn
        obtain ⟨P2, S2, hw⟩ := nx P1 S1 hI1
        refine ⟨P2, S2, fun A => ch_L_law_18 (am_if_t rfl ?_)⟩
        rw [if_neg hc]
        refine am_if_t rfl ⟨b0, ⟨fun z => absurd z q0, fun _ => ⟨fun z => absurd z q1, fun _ => ⟨fun z => absurd z q2, fun _ => ⟨fun z => absurd z q3, fun _ => ⟨fun z => absurd z q4, fun _ => ⟨fun z => absurd z q5, fun _ => ⟨fun _ => ?_, fun z => absurd q6 z⟩⟩⟩⟩⟩⟩⟩⟩
        refine am_if_t rfl ⟨b1, ⟨_, _, cA, am_if_t rfl ⟨b1, ⟨_, _, cB, ?_⟩⟩⟩⟩
        rw [if_pos rfl, n6]
        exact hw A
      by_cases q7 : (xs (nI i).toNatClampNeg) &&& 31 = nI 7
      · obtain ⟨x, P1, S1, hI1, cA, cB⟩ := both_frame (L := L) (xs := xs) (a := xs (nI i + 1).toNatClampNeg) hIn
        obtain ⟨P2, S2, hw⟩ := nx P1 S1 hI1
        refine ⟨P2, S2, fun A => ch_L_law_18 (am_if_t rfl ?_)⟩
        rw [if_neg hc]
        refine am_if_t rfl ⟨b0, ⟨fun z => absurd z q0, fun _ => ⟨fun z => absurd z q1, fun _ => ⟨fun z => absurd z q2, fun _ => ⟨fun z => absurd z q3, fun _ => ⟨fun z => absurd z q4, fun _ => ⟨fun z => absurd z q5, fun _ => ⟨fun z => absurd z q6, fun _ => ⟨fun _ => ?_, fun z => absurd q7 z⟩⟩⟩⟩⟩⟩⟩⟩⟩
        refine am_if_t rfl ⟨b1, ⟨_, _, cA, am_if_t rfl ⟨b1, ⟨_, _, cB, ?_⟩⟩⟩⟩
        rw [if_pos rfl, n6]
        exact hw A
      by_cases q8 : (xs (nI i).toNatClampNeg) &&& 31 = nI 8
      · obtain ⟨x, P1, S1, hI1, cA, cB⟩ := both_give (L := L) (xs := xs) (a := xs (nI i + 1).toNatClampNeg) (b := xs (nI i + 2).toNatClampNeg) hIn
        obtain ⟨P2, S2, hw⟩ := nx P1 S1 hI1
        refine ⟨P2, S2, fun A => ch_L_law_18 (am_if_t rfl ?_)⟩
        rw [if_neg hc]
        refine am_if_t rfl ⟨b0, ⟨fun z => absurd z q0, fun _ => ⟨fun z => absurd z q1, fun _ => ⟨fun z => absurd z q2, fun _ => ⟨fun z => absurd z q3, fun _ => ⟨fun z => absurd z q4, fun _ => ⟨fun z => absurd z q5, fun _ => ⟨fun z => absurd z q6, fun _ => ⟨fun z => absurd z q7, fun _ => ⟨fun _ => ?_, fun z => absurd q8 z⟩⟩⟩⟩⟩⟩⟩⟩⟩⟩
        refine am_if_t rfl ⟨b1, am_if_t rfl ⟨b2, ⟨_, _, cA, am_if_t rfl ⟨b1, am_if_t rfl ⟨b2, ⟨_, _, cB, ?_⟩⟩⟩⟩⟩⟩
        rw [if_pos rfl, n6]
        exact hw A
      by_cases q9 : (xs (nI i).toNatClampNeg) &&& 31 = nI 9
      · obtain ⟨x, P1, S1, hI1, cA, cB⟩ := both_join (L := L) (xs := xs) (a := xs (nI i + 1).toNatClampNeg) (b := xs (nI i + 2).toNatClampNeg) hIn
        obtain ⟨P2, S2, hw⟩ := nx P1 S1 hI1
        refine ⟨P2, S2, fun A => ch_L_law_18 (am_if_t rfl ?_)⟩
        rw [if_neg hc]
        refine am_if_t rfl ⟨b0, ⟨fun z => absurd z q0, fun _ => ⟨fun z => absurd z q1, fun _ => ⟨fun z => absurd z q2, fun _ => ⟨fun z => absurd z q3, fun _ => ⟨fun z => absurd z q4, fun _ => ⟨fun z => absurd z q5, fun _ => ⟨fun z => absurd z q6, fun _ => ⟨fun z => absurd z q7, fun _ => ⟨fun z => absurd z q8, fun _ => ⟨fun _ => ?_, fun z => absurd q9 z⟩⟩⟩⟩⟩⟩⟩⟩⟩⟩⟩
        refine am_if_t rfl ⟨b1, am_if_t rfl ⟨b2, ⟨_, _, cA, am_if_t rfl ⟨b1, am_if_t rfl ⟨b2, ⟨_, _, cB, ?_⟩⟩⟩⟩⟩⟩
        rw [if_pos rfl, n6]
        exact hw A
      by_cases q10 : (xs (nI i).toNatClampNeg) &&& 31 = nI 10
      · obtain ⟨x, P1, S1, hI1, cA, cB⟩ := both_part (L := L) (xs := xs) (a := xs (nI i + 1).toNatClampNeg) (b := xs (nI i + 2).toNatClampNeg) hIn
        obtain ⟨P2, S2, hw⟩ := nx P1 S1 hI1
        refine ⟨P2, S2, fun A => ch_L_law_18 (am_if_t rfl ?_)⟩
        rw [if_neg hc]
        refine am_if_t rfl ⟨b0, ⟨fun z => absurd z q0, fun _ => ⟨fun z => absurd z q1, fun _ => ⟨fun z => absurd z q2, fun _ => ⟨fun z => absurd z q3, fun _ => ⟨fun z => absurd z q4, fun _ => ⟨fun z => absurd z q5, fun _ => ⟨fun z => absurd z q6, fun _ => ⟨fun z => absurd z q7, fun _ => ⟨fun z => absurd z q8, fun _ => ⟨fun z => absurd z q9, fun _ => ⟨fun _ => ?_, fun z => absurd q10 z⟩⟩⟩⟩⟩⟩⟩⟩⟩⟩⟩⟩
        refine am_if_t rfl ⟨b1, am_if_t rfl ⟨b2, ⟨_, _, cA, am_if_t rfl ⟨b1, am_if_t rfl ⟨b2, ⟨_, _, cB, ?_⟩⟩⟩⟩⟩⟩
        rw [if_pos rfl, n6]
        exact hw A
      by_cases q11 : (xs (nI i).toNatClampNeg) &&& 31 = nI 11
      · obtain ⟨x, P1, S1, hI1, cA, cB⟩ := both_undo (L := L) (xs := xs)  hIn
        obtain ⟨P2, S2, hw⟩ := nx P1 S1 hI1
        refine ⟨P2, S2, fun A => ch_L_law_18 (am_if_t rfl ?_)⟩
        rw [if_neg hc]
        refine am_if_t rfl ⟨b0, ⟨fun z => absurd z q0, fun _ => ⟨fun z => absurd z q1, fun _ => ⟨fun z => absurd z q2, fun _ => ⟨fun z => absurd z q3, fun _ => ⟨fun z => absurd z q4, fun _ => ⟨fun z => absurd z q5, fun _ => ⟨fun z => absurd z q6, fun _ => ⟨fun z => absurd z q7, fun _ => ⟨fun z => absurd z q8, fun _ => ⟨fun z => absurd z q9, fun _ => ⟨fun z => absurd z q10, fun _ => ⟨fun _ => ?_, fun z => absurd q11 z⟩⟩⟩⟩⟩⟩⟩⟩⟩⟩⟩⟩⟩
        refine ⟨_, _, cA, ⟨_, _, cB, ?_⟩⟩
        rw [if_pos rfl, n6]
        exact hw A
      by_cases q12 : (xs (nI i).toNatClampNeg) &&& 31 = nI 12
      · obtain ⟨x, P1, S1, hI1, cA, cB⟩ := both_keep (L := L) (xs := xs) (a := xs (nI i + 1).toNatClampNeg) hIn
        obtain ⟨P2, S2, hw⟩ := nx P1 S1 hI1
        refine ⟨P2, S2, fun A => ch_L_law_18 (am_if_t rfl ?_)⟩
        rw [if_neg hc]
        refine am_if_t rfl ⟨b0, ⟨fun z => absurd z q0, fun _ => ⟨fun z => absurd z q1, fun _ => ⟨fun z => absurd z q2, fun _ => ⟨fun z => absurd z q3, fun _ => ⟨fun z => absurd z q4, fun _ => ⟨fun z => absurd z q5, fun _ => ⟨fun z => absurd z q6, fun _ => ⟨fun z => absurd z q7, fun _ => ⟨fun z => absurd z q8, fun _ => ⟨fun z => absurd z q9, fun _ => ⟨fun z => absurd z q10, fun _ => ⟨fun z => absurd z q11, fun _ => ⟨fun _ => ?_, fun z => absurd q12 z⟩⟩⟩⟩⟩⟩⟩⟩⟩⟩⟩⟩⟩⟩
        refine am_if_t rfl ⟨b1, ⟨_, _, cA, am_if_t rfl ⟨b1, ⟨_, _, cB, ?_⟩⟩⟩⟩
        rw [if_pos rfl, n6]
        exact hw A
      by_cases q13 : (xs (nI i).toNatClampNeg) &&& 31 = nI 13
      · obtain ⟨x, P1, S1, hI1, cA, cB⟩ := both_back (L := L) (xs := xs) (a := xs (nI i + 1).toNatClampNeg) hIn
        obtain ⟨P2, S2, hw⟩ := nx P1 S1 hI1
        refine ⟨P2, S2, fun A => ch_L_law_18 (am_if_t rfl ?_)⟩
        rw [if_neg hc]
        refine am_if_t rfl ⟨b0, ⟨fun z => absurd z q0, fun _ => ⟨fun z => absurd z q1, fun _ => ⟨fun z => absurd z q2, fun _ => ⟨fun z => absurd z q3, fun _ => ⟨fun z => absurd z q4, fun _ => ⟨fun z => absurd z q5, fun _ => ⟨fun z => absurd z q6, fun _ => ⟨fun z => absurd z q7, fun _ => ⟨fun z => absurd z q8, fun _ => ⟨fun z => absurd z q9, fun _ => ⟨fun z => absurd z q10, fun _ => ⟨fun z => absurd z q11, fun _ => ⟨fun z => absurd z q12, fun _ => ⟨fun _ => ?_, fun z => absurd q13 z⟩⟩⟩⟩⟩⟩⟩⟩⟩⟩⟩⟩⟩⟩⟩
        refine am_if_t rfl ⟨b1, ⟨_, _, cA, am_if_t rfl ⟨b1, ⟨_, _, cB, ?_⟩⟩⟩⟩
        rw [if_pos rfl, n6]
        exact hw A
      by_cases q14 : (xs (nI i).toNatClampNeg) &&& 31 = nI 14
      · obtain ⟨x, P1, S1, hI1, cA, cB⟩ := both_phase (L := L) (xs := xs) (a := xs (nI i + 1).toNatClampNeg) hIn
        obtain ⟨P2, S2, hw⟩ := nx P1 S1 hI1
        refine ⟨P2, S2, fun A => ch_L_law_18 (am_if_t rfl ?_)⟩
        rw [if_neg hc]
        refine am_if_t rfl ⟨b0, ⟨fun z => absurd z q0, fun _ => ⟨fun z => absurd z q1, fun _ => ⟨fun z => absurd z q2, fun _ => ⟨fun z => absurd z q3, fun _ => ⟨fun z => absurd z q4, fun _ => ⟨fun z => absurd z q5, fun _ => ⟨fun z => absurd z q6, fun _ => ⟨fun z => absurd z q7, fun _ => ⟨fun z => absurd z q8, fun _ => ⟨fun z => absurd z q9, fun _ => ⟨fun z => absurd z q10, fun _ => ⟨fun z => absurd z q11, fun _ => ⟨fun z => absurd z q12, fun _ => ⟨fun z => absurd z q13, fun _ => ⟨fun _ => ?_, fun z => absurd q14 z⟩⟩⟩⟩⟩⟩⟩⟩⟩⟩⟩⟩⟩⟩⟩⟩
        refine am_if_t rfl ⟨b1, ⟨_, _, cA, am_if_t rfl ⟨b1, ⟨_, _, cB, ?_⟩⟩⟩⟩
        rw [if_pos rfl, n6]
        exact hw A
      by_cases q15 : (xs (nI i).toNatClampNeg) &&& 31 = nI 15
      · obtain ⟨x, P1, S1, hI1, cA, cB⟩ := both_after (L := L) (xs := xs)  hIn
        obtain ⟨P2, S2, hw⟩ := nx P1 S1 hI1
        refine ⟨P2, S2, fun A => ch_L_law_18 (am_if_t rfl ?_)⟩
        rw [if_neg hc]
        refine am_if_t rfl ⟨b0, ⟨fun z => absurd z q0, fun _ => ⟨fun z => absurd z q1, fun _ => ⟨fun z => absurd z q2, fun _ => ⟨fun z => absurd z q3, fun _ => ⟨fun z => absurd z q4, fun _ => ⟨fun z => absurd z q5, fun _ => ⟨fun z => absurd z q6, fun _ => ⟨fun z => absurd z q7, fun _ => ⟨fun z => absurd z q8, fun _ => ⟨fun z => absurd z q9, fun _ => ⟨fun z => absurd z q10, fun _ => ⟨fun z => absurd z q11, fun _ => ⟨fun z => absurd z q12, fun _ => ⟨fun z => absurd z q13, fun _ => ⟨fun z => absurd z q14, fun _ => ⟨fun _ => ?_, fun z => absurd q15 z⟩⟩⟩⟩⟩⟩⟩⟩⟩⟩⟩⟩⟩⟩⟩⟩⟩
        refine ⟨_, _, cA, ⟨_, _, cB, ?_⟩⟩
        rw [if_pos rfl, n6]
        exact hw A
      by_cases q16 : (xs (nI i).toNatClampNeg) &&& 31 = nI 16
      · obtain ⟨x, P1, S1, hI1, cA, cB⟩ := both_spoils (L := L) (xs := xs) (a := xs (nI i + 1).toNatClampNeg) (b := xs (nI i + 2).toNatClampNeg) hIn
        obtain ⟨P2, S2, hw⟩ := nx P1 S1 hI1
        refine ⟨P2, S2, fun A => ch_L_law_18 (am_if_t rfl ?_)⟩
        rw [if_neg hc]
        refine am_if_t rfl ⟨b0, ⟨fun z => absurd z q0, fun _ => ⟨fun z => absurd z q1, fun _ => ⟨fun z => absurd z q2, fun _ => ⟨fun z => absurd z q3, fun _ => ⟨fun z => absurd z q4, fun _ => ⟨fun z => absurd z q5, fun _ => ⟨fun z => absurd z q6, fun _ => ⟨fun z => absurd z q7, fun _ => ⟨fun z => absurd z q8, fun _ => ⟨fun z => absurd z q9, fun _ => ⟨fun z => absurd z q10, fun _ => ⟨fun z => absurd z q11, fun _ => ⟨fun z => absurd z q12, fun _ => ⟨fun z => absurd z q13, fun _ => ⟨fun z => absurd z q14, fun _ => ⟨fun z => absurd z q15, fun _ => ⟨fun _ => ?_, fun z => absurd q16 z⟩⟩⟩⟩⟩⟩⟩⟩⟩⟩⟩⟩⟩⟩⟩⟩⟩⟩
        refine am_if_t rfl ⟨b1, am_if_t rfl ⟨b2, ⟨_, _, cA, am_if_t rfl ⟨b1, am_if_t rfl ⟨b2, ⟨_, _, cB, ?_⟩⟩⟩⟩⟩⟩
        rw [if_pos rfl, n6]
        exact hw A
      by_cases q17 : (xs (nI i).toNatClampNeg) &&& 31 = nI 17
      · obtain ⟨x, P1, S1, hI1, cA, cB⟩ := both_fewest (L := L) (xs := xs)  hIn
        obtain ⟨P2, S2, hw⟩ := nx P1 S1 hI1
        refine ⟨P2, S2, fun A => ch_L_law_18 (am_if_t rfl ?_)⟩
        rw [if_neg hc]
        refine am_if_t rfl ⟨b0, ⟨fun z => absurd z q0, fun _ => ⟨fun z => absurd z q1, fun _ => ⟨fun z => absurd z q2, fun _ => ⟨fun z => absurd z q3, fun _ => ⟨fun z => absurd z q4, fun _ => ⟨fun z => absurd z q5, fun _ => ⟨fun z => absurd z q6, fun _ => ⟨fun z => absurd z q7, fun _ => ⟨fun z => absurd z q8, fun _ => ⟨fun z => absurd z q9, fun _ => ⟨fun z => absurd z q10, fun _ => ⟨fun z => absurd z q11, fun _ => ⟨fun z => absurd z q12, fun _ => ⟨fun z => absurd z q13, fun _ => ⟨fun z => absurd z q14, fun _ => ⟨fun z => absurd z q15, fun _ => ⟨fun z => absurd z q16, fun _ => ⟨fun _ => ?_, fun z => absurd q17 z⟩⟩⟩⟩⟩⟩⟩⟩⟩⟩⟩⟩⟩⟩⟩⟩⟩⟩⟩
        refine ⟨_, _, cA, ⟨_, _, cB, ?_⟩⟩
        rw [if_pos rfl, n6]
        exact hw A
      by_cases q18 : (xs (nI i).toNatClampNeg) &&& 31 = nI 18
      · obtain ⟨x, P1, S1, hI1, cA, cB⟩ := both_hops (L := L) (xs := xs) (a := xs (nI i + 1).toNatClampNeg) (b := xs (nI i + 2).toNatClampNeg) hIn
        obtain ⟨P2, S2, hw⟩ := nx P1 S1 hI1
        refine ⟨P2, S2, fun A => ch_L_law_18 (am_if_t rfl ?_)⟩
        rw [if_neg hc]
        refine am_if_t rfl ⟨b0, ⟨fun z => absurd z q0, fun _ => ⟨fun z => absurd z q1, fun _ => ⟨fun z => absurd z q2, fun _ => ⟨fun z => absurd z q3, fun _ => ⟨fun z => absurd z q4, fun _ => ⟨fun z => absurd z q5, fun _ => ⟨fun z => absurd z q6, fun _ => ⟨fun z => absurd z q7, fun _ => ⟨fun z => absurd z q8, fun _ => ⟨fun z => absurd z q9, fun _ => ⟨fun z => absurd z q10, fun _ => ⟨fun z => absurd z q11, fun _ => ⟨fun z => absurd z q12, fun _ => ⟨fun z => absurd z q13, fun _ => ⟨fun z => absurd z q14, fun _ => ⟨fun z => absurd z q15, fun _ => ⟨fun z => absurd z q16, fun _ => ⟨fun z => absurd z q17, fun _ => ⟨fun _ => ?_, fun z => absurd q18 z⟩⟩⟩⟩⟩⟩⟩⟩⟩⟩⟩⟩⟩⟩⟩⟩⟩⟩⟩⟩
        refine am_if_t rfl ⟨b1, am_if_t rfl ⟨b2, ⟨_, _, cA, am_if_t rfl ⟨b1, am_if_t rfl ⟨b2, ⟨_, _, cB, ?_⟩⟩⟩⟩⟩⟩
        rw [if_pos rfl, n6]
        exact hw A
      by_cases q19 : (xs (nI i).toNatClampNeg) &&& 31 = nI 19
      · obtain ⟨x, P1, S1, hI1, cA, cB⟩ := both_tally (L := L) (xs := xs) (a := xs (nI i + 1).toNatClampNeg) (b := xs (nI i + 2).toNatClampNeg) (c := xs (nI i + 3).toNatClampNeg) (d := xs (nI i + 4).toNatClampNeg) (e := xs (nI i + 5).toNatClampNeg) hI
        obtain ⟨P2, S2, hw⟩ := nx P1 S1 hI1
        refine ⟨P2, S2, fun A => ch_L_law_18 (am_if_t rfl ?_)⟩
        rw [if_neg hc]
        refine am_if_t rfl ⟨b0, ⟨fun z => absurd z q0, fun _ => ⟨fun z => absurd z q1, fun _ => ⟨fun z => absurd z q2, fun _ => ⟨fun z => absurd z q3, fun _ => ⟨fun z => absurd z q4, fun _ => ⟨fun z => absurd z q5, fun _ => ⟨fun z => absurd z q6, fun _ => ⟨fun z => absurd z q7, fun _ => ⟨fun z => absurd z q8, fun _ => ⟨fun z => absurd z q9, fun _ => ⟨fun z => absurd z q10, fun _ => ⟨fun z => absurd z q11, fun _ => ⟨fun z => absurd z q12, fun _ => ⟨fun z => absurd z q13, fun _ => ⟨fun z => absurd z q14, fun _ => ⟨fun z => absurd z q15, fun _ => ⟨fun z => absurd z q16, fun _ => ⟨fun z => absurd z q17, fun _ => ⟨fun z => absurd z q18, fun _ => ⟨fun _ => ?_, fun z => absurd q19 z⟩⟩⟩⟩⟩⟩⟩⟩⟩⟩⟩⟩⟩⟩⟩⟩⟩⟩⟩⟩⟩
        refine am_if_t rfl ⟨b1, am_if_t rfl ⟨b2, am_if_t rfl ⟨b3, am_if_t rfl ⟨b4, am_if_t rfl ⟨b5, ⟨_, _, cA, am_if_t rfl ⟨b1, am_if_t rfl ⟨b2, am_if_t rfl ⟨b3, am_if_t rfl ⟨b4, am_if_t rfl ⟨b5, ⟨_, _, cB, ?_⟩⟩⟩⟩⟩⟩⟩⟩⟩⟩⟩⟩
        rw [if_pos rfl, n6]
        exact hw A
      by_cases q20 : (xs (nI i).toNatClampNeg) &&& 31 = nI 20
      · obtain ⟨x, P1, S1, hI1, cA, cB⟩ := both_append (L := L) (xs := xs) (a := xs (nI i + 1).toNatClampNeg) (b := xs (nI i + 2).toNatClampNeg) hI
        obtain ⟨P2, S2, hw⟩ := nx P1 S1 hI1
        refine ⟨P2, S2, fun A => ch_L_law_18 (am_if_t rfl ?_)⟩
        rw [if_neg hc]
        refine am_if_t rfl ⟨b0, ⟨fun z => absurd z q0, fun _ => ⟨fun z => absurd z q1, fun _ => ⟨fun z => absurd z q2, fun _ => ⟨fun z => absurd z q3, fun _ => ⟨fun z => absurd z q4, fun _ => ⟨fun z => absurd z q5, fun _ => ⟨fun z => absurd z q6, fun _ => ⟨fun z => absurd z q7, fun _ => ⟨fun z => absurd z q8, fun _ => ⟨fun z => absurd z q9, fun _ => ⟨fun z => absurd z q10, fun _ => ⟨fun z => absurd z q11, fun _ => ⟨fun z => absurd z q12, fun _ => ⟨fun z => absurd z q13, fun _ => ⟨fun z => absurd z q14, fun _ => ⟨fun z => absurd z q15, fun _ => ⟨fun z => absurd z q16, fun _ => ⟨fun z => absurd z q17, fun _ => ⟨fun z => absurd z q18, fun _ => ⟨fun z => absurd z q19, fun _ => ⟨fun _ => ?_, fun z => absurd q20 z⟩⟩⟩⟩⟩⟩⟩⟩⟩⟩⟩⟩⟩⟩⟩⟩⟩⟩⟩⟩⟩⟩
        refine am_if_t rfl ⟨b1, am_if_t rfl ⟨b2, ⟨_, _, cA, am_if_t rfl ⟨b1, am_if_t rfl ⟨b2, ⟨_, _, cB, ?_⟩⟩⟩⟩⟩⟩
        rw [if_pos rfl, n6]
        exact hw A
      by_cases q21 : (xs (nI i).toNatClampNeg) &&& 31 = nI 21
      · obtain ⟨x, P1, S1, hI1, cA, cB⟩ := both_reckon (L := L) (xs := xs) (a := xs (nI i + 1).toNatClampNeg) (b := xs (nI i + 2).toNatClampNeg) hI
        obtain ⟨P2, S2, hw⟩ := nx P1 S1 hI1
        refine ⟨P2, S2, fun A => ch_L_law_18 (am_if_t rfl ?_)⟩
        rw [if_neg hc]
        refine am_if_t rfl ⟨b0, ⟨fun z => absurd z q0, fun _ => ⟨fun z => absurd z q1, fun _ => ⟨fun z => absurd z q2, fun _ => ⟨fun z => absurd z q3, fun _ => ⟨fun z => absurd z q4, fun _ => ⟨fun z => absurd z q5, fun _ => ⟨fun z => absurd z q6, fun _ => ⟨fun z => absurd z q7, fun _ => ⟨fun z => absurd z q8, fun _ => ⟨fun z => absurd z q9, fun _ => ⟨fun z => absurd z q10, fun _ => ⟨fun z => absurd z q11, fun _ => ⟨fun z => absurd z q12, fun _ => ⟨fun z => absurd z q13, fun _ => ⟨fun z => absurd z q14, fun _ => ⟨fun z => absurd z q15, fun _ => ⟨fun z => absurd z q16, fun _ => ⟨fun z => absurd z q17, fun _ => ⟨fun z => absurd z q18, fun _ => ⟨fun z => absurd z q19, fun _ => ⟨fun z => absurd z q20, fun _ => ⟨fun _ => ?_, fun z => absurd q21 z⟩⟩⟩⟩⟩⟩⟩⟩⟩⟩⟩⟩⟩⟩⟩⟩⟩⟩⟩⟩⟩⟩⟩
        refine am_if_t rfl ⟨b1, am_if_t rfl ⟨b2, ⟨_, _, cA, am_if_t rfl ⟨b1, am_if_t rfl ⟨b2, ⟨_, _, cB, ?_⟩⟩⟩⟩⟩⟩
        rw [if_pos rfl, n6]
        exact hw A
      by_cases q22 : (xs (nI i).toNatClampNeg) &&& 31 = nI 22
      · obtain ⟨x, P1, S1, hI1, cA, cB⟩ := both_pop (L := L) (xs := xs) (a := xs (nI i + 1).toNatClampNeg) hI
        obtain ⟨P2, S2, hw⟩ := nx P1 S1 hI1
        refine ⟨P2, S2, fun A => ch_L_law_18 (am_if_t rfl ?_)⟩
        rw [if_neg hc]
        refine am_if_t rfl ⟨b0, ⟨fun z => absurd z q0, fun _ => ⟨fun z => absurd z q1, fun _ => ⟨fun z => absurd z q2, fun _ => ⟨fun z => absurd z q3, fun _ => ⟨fun z => absurd z q4, fun _ => ⟨fun z => absurd z q5, fun _ => ⟨fun z => absurd z q6, fun _ => ⟨fun z => absurd z q7, fun _ => ⟨fun z => absurd z q8, fun _ => ⟨fun z => absurd z q9, fun _ => ⟨fun z => absurd z q10, fun _ => ⟨fun z => absurd z q11, fun _ => ⟨fun z => absurd z q12, fun _ => ⟨fun z => absurd z q13, fun _ => ⟨fun z => absurd z q14, fun _ => ⟨fun z => absurd z q15, fun _ => ⟨fun z => absurd z q16, fun _ => ⟨fun z => absurd z q17, fun _ => ⟨fun z => absurd z q18, fun _ => ⟨fun z => absurd z q19, fun _ => ⟨fun z => absurd z q20, fun _ => ⟨fun z => absurd z q21, fun _ => ⟨fun _ => ?_, fun z => absurd q22 z⟩⟩⟩⟩⟩⟩⟩⟩⟩⟩⟩⟩⟩⟩⟩⟩⟩⟩⟩⟩⟩⟩⟩⟩
        refine am_if_t rfl ⟨b1, ⟨_, _, cA, am_if_t rfl ⟨b1, ⟨_, _, cB, ?_⟩⟩⟩⟩
        rw [if_pos rfl, n6]
        exact hw A
      by_cases q23 : (xs (nI i).toNatClampNeg) &&& 31 = nI 23
      · obtain ⟨x, P1, S1, hI1, cA, cB⟩ := both_each (L := L) (xs := xs) (a := xs (nI i + 1).toNatClampNeg) (b := xs (nI i + 2).toNatClampNeg) hI
        obtain ⟨P2, S2, hw⟩ := nx P1 S1 hI1
        refine ⟨P2, S2, fun A => ch_L_law_18 (am_if_t rfl ?_)⟩
        rw [if_neg hc]
        refine am_if_t rfl ⟨b0, ⟨fun z => absurd z q0, fun _ => ⟨fun z => absurd z q1, fun _ => ⟨fun z => absurd z q2, fun _ => ⟨fun z => absurd z q3, fun _ => ⟨fun z => absurd z q4, fun _ => ⟨fun z => absurd z q5, fun _ => ⟨fun z => absurd z q6, fun _ => ⟨fun z => absurd z q7, fun _ => ⟨fun z => absurd z q8, fun _ => ⟨fun z => absurd z q9, fun _ => ⟨fun z => absurd z q10, fun _ => ⟨fun z => absurd z q11, fun _ => ⟨fun z => absurd z q12, fun _ => ⟨fun z => absurd z q13, fun _ => ⟨fun z => absurd z q14, fun _ => ⟨fun z => absurd z q15, fun _ => ⟨fun z => absurd z q16, fun _ => ⟨fun z => absurd z q17, fun _ => ⟨fun z => absurd z q18, fun _ => ⟨fun z => absurd z q19, fun _ => ⟨fun z => absurd z q20, fun _ => ⟨fun z => absurd z q21, fun _ => ⟨fun z => absurd z q22, fun _ => ⟨fun _ => ?_, fun z => absurd q23 z⟩⟩⟩⟩⟩⟩⟩⟩⟩⟩⟩⟩⟩⟩⟩⟩⟩⟩⟩⟩⟩⟩⟩⟩⟩
        refine am_if_t rfl ⟨b1, am_if_t rfl ⟨b2, ⟨_, _, cA, am_if_t rfl ⟨b1, am_if_t rfl ⟨b2, ⟨_, _, cB, ?_⟩⟩⟩⟩⟩⟩
        rw [if_pos rfl, n6]
        exact hw A
      by_cases q24 : (xs (nI i).toNatClampNeg) &&& 31 = nI 24
      · obtain ⟨x, P1, S1, hI1, cA, cB⟩ := both_drop (L := L) (xs := xs) (a := xs (nI i + 1).toNatClampNeg) hI
        obtain ⟨P2, S2, hw⟩ := nx P1 S1 hI1
        refine ⟨P2, S2, fun A => ch_L_law_18 (am_if_t rfl ?_)⟩
        rw [if_neg hc]
        refine am_if_t rfl ⟨b0, ⟨fun z => absurd z q0, fun _ => ⟨fun z => absurd z q1, fun _ => ⟨fun z => absurd z q2, fun _ => ⟨fun z => absurd z q3, fun _ => ⟨fun z => absurd z q4, fun _ => ⟨fun z => absurd z q5, fun _ => ⟨fun z => absurd z q6, fun _ => ⟨fun z => absurd z q7, fun _ => ⟨fun z => absurd z q8, fun _ => ⟨fun z => absurd z q9, fun _ => ⟨fun z => absurd z q10, fun _ => ⟨fun z => absurd z q11, fun _ => ⟨fun z => absurd z q12, fun _ => ⟨fun z => absurd z q13, fun _ => ⟨fun z => absurd z q14, fun _ => ⟨fun z => absurd z q15, fun _ => ⟨fun z => absurd z q16, fun _ => ⟨fun z => absurd z q17, fun _ => ⟨fun z => absurd z q18, fun _ => ⟨fun z => absurd z q19, fun _ => ⟨fun z => absurd z q20, fun _ => ⟨fun z => absurd z q21, fun _ => ⟨fun z => absurd z q22, fun _ => ⟨fun z => absurd z q23, fun _ => ⟨fun _ => ?_, fun z => absurd q24 z⟩⟩⟩⟩⟩⟩⟩⟩⟩⟩⟩⟩⟩⟩⟩⟩⟩⟩⟩⟩⟩⟩⟩⟩⟩⟩
        refine am_if_t rfl ⟨b1, ⟨_, _, cA, am_if_t rfl ⟨b1, ⟨_, _, cB, ?_⟩⟩⟩⟩
        rw [if_pos rfl, n6]
        exact hw A
      by_cases q25 : (xs (nI i).toNatClampNeg) &&& 31 = nI 25
      · obtain ⟨x, P1, S1, hI1, cA, cB⟩ := both_told (L := L) (xs := xs) (a := xs (nI i + 1).toNatClampNeg) hIn
        obtain ⟨P2, S2, hw⟩ := nx P1 S1 hI1
        refine ⟨P2, S2, fun A => ch_L_law_18 (am_if_t rfl ?_)⟩
        rw [if_neg hc]
        refine am_if_t rfl ⟨b0, ⟨fun z => absurd z q0, fun _ => ⟨fun z => absurd z q1, fun _ => ⟨fun z => absurd z q2, fun _ => ⟨fun z => absurd z q3, fun _ => ⟨fun z => absurd z q4, fun _ => ⟨fun z => absurd z q5, fun _ => ⟨fun z => absurd z q6, fun _ => ⟨fun z => absurd z q7, fun _ => ⟨fun z => absurd z q8, fun _ => ⟨fun z => absurd z q9, fun _ => ⟨fun z => absurd z q10, fun _ => ⟨fun z => absurd z q11, fun _ => ⟨fun z => absurd z q12, fun _ => ⟨fun z => absurd z q13, fun _ => ⟨fun z => absurd z q14, fun _ => ⟨fun z => absurd z q15, fun _ => ⟨fun z => absurd z q16, fun _ => ⟨fun z => absurd z q17, fun _ => ⟨fun z => absurd z q18, fun _ => ⟨fun z => absurd z q19, fun _ => ⟨fun z => absurd z q20, fun _ => ⟨fun z => absurd z q21, fun _ => ⟨fun z => absurd z q22, fun _ => ⟨fun z => absurd z q23, fun _ => ⟨fun z => absurd z q24, fun _ => ⟨fun _ => ?_, fun z => absurd q25 z⟩⟩⟩⟩⟩⟩⟩⟩⟩⟩⟩⟩⟩⟩⟩⟩⟩⟩⟩⟩⟩⟩⟩⟩⟩⟩⟩
        refine am_if_t rfl ⟨b1, ⟨_, _, cA, am_if_t rfl ⟨b1, ⟨_, _, cB, ?_⟩⟩⟩⟩
        rw [if_pos rfl, n6]
        exact hw A
      obtain ⟨P2, S2, hw⟩ := nx P S hI
      refine ⟨P2, S2, fun A => ch_L_law_18 (am_if_t rfl ?_)⟩
      rw [if_neg hc]
      refine am_if_t rfl ⟨b0, ⟨fun z => absurd z q0, fun _ => ⟨fun z => absurd z q1, fun _ => ⟨fun z => absurd z q2, fun _ => ⟨fun z => absurd z q3, fun _ => ⟨fun z => absurd z q4, fun _ => ⟨fun z => absurd z q5, fun _ => ⟨fun z => absurd z q6, fun _ => ⟨fun z => absurd z q7, fun _ => ⟨fun z => absurd z q8, fun _ => ⟨fun z => absurd z q9, fun _ => ⟨fun z => absurd z q10, fun _ => ⟨fun z => absurd z q11, fun _ => ⟨fun z => absurd z q12, fun _ => ⟨fun z => absurd z q13, fun _ => ⟨fun z => absurd z q14, fun _ => ⟨fun z => absurd z q15, fun _ => ⟨fun z => absurd z q16, fun _ => ⟨fun z => absurd z q17, fun _ => ⟨fun z => absurd z q18, fun _ => ⟨fun z => absurd z q19, fun _ => ⟨fun z => absurd z q20, fun _ => ⟨fun z => absurd z q21, fun _ => ⟨fun z => absurd z q22, fun _ => ⟨fun z => absurd z q23, fun _ => ⟨fun z => absurd z q24, fun _ => ⟨fun z => absurd z q25, fun _ => ?_⟩⟩⟩⟩⟩⟩⟩⟩⟩⟩⟩⟩⟩⟩⟩⟩⟩⟩⟩⟩⟩⟩⟩⟩⟩⟩⟩
      rw [n6]
      exact hw A
end LL
