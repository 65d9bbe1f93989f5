/-! NUMBERS OF THE TEXT; THE REFERENCE'S WORDS -/
def vlF (f : Nat → Int32) (s : Nat) : Nat → Int32
  | 0 => 0
  | k + 1 => (vlF f s k * 10 + f (s + k)) - 48
def isN (f : Nat → Int32) (ln s t : Nat) : Bool := decide (s < ln ∧ dgt (f s) = true ∧ t - s ≤ 3)
def rdB (f : Nat → Int32) (ln s t : Nat) (lo hi : Int32) : Bool := isN f ln s t && decide (¬ vlF f s (t - s) < lo ∧ ¬ hi < vlF f s (t - s))
section NU
variable {L : Nat} {xs : Nat → Int32} {h : am_H} {b c : Nat} {X D : sg_S} {ln e : Nat} {f : Nat → Int32}
theorem nI_subd {s t : Nat} (h : s ≤ t) : nI t - nI s = nI (t - s) := by
  obtain ⟨d, rfl⟩ : ∃ d, t = s + d := ⟨t - s, by omega⟩
  rw [show s + d - s = d by omega, ← nI_add, Int32.add_comm, Int32.add_sub_cancel]
def rnW (X : sg_S) (ln s t : Nat) : Int32 := if isN (X.2 0) ln s t then vlF (X.2 0) s (t - s) else X.1 4
def rnC (X : sg_S) (ln e : Nat) : sg_S := (upd (nxC X ln e).1 4 (rnW X ln (tkS (X.2 0) ln e) (tkE (X.2 0) ln (tkS (X.2 0) ln e))), X.2)
theorem ok_readNumber {lo hi : Int32} (hb : b + 1 < h.1) (hl : X.1 1 = nI ln) (h2 : ln ≤ 200) (he : X.1 3 = nI e) (hel : e ≤ ln) : am_ok L xs m_X3_readNumber [.ref b, .int lo, .int hi] (ob sgX h b X) (some (if rdB (X.2 0) ln (tkS (X.2 0) ln e) (tkE (X.2 0) ln (tkS (X.2 0) ln e)) lo hi then 1 else 0)) (ob sgX h b (rnC X ln e)) := by
  refine en_X3_readNumber (cX hb) rfl rfl (ch_X3_readNumber_0 ⟨_, ok_nextC hb hl h2 he hel, ?_⟩)
  have hs := tkS_le (X.2 0) hel
  have ht := tkE_le (X.2 0) hs.2
  have nx1 : (nxC X ln e).1 1 = nI ln := hl
  have nx2 : (nxC X ln e).1 2 = nI (tkS (X.2 0) ln e) := rfl
  have nx3 : (nxC X ln e).1 3 = nI (tkE (X.2 0) ln (tkS (X.2 0) ln e)) := rfl
  have nx4 : (nxC X ln e).1 4 = X.1 4 := rfl
  have nxx : (nxC X ln e).2 = X.2 := rfl
  unfold rnC
  generalize hN : nxC X ln e = N at nx1 nx2 nx3 nx4 nxx
  generalize tkS (X.2 0) ln e = s at nx2 nx3 hs ht
  generalize tkE (X.2 0) ln s = t at nx3 ht
  have keep : ¬ isN (X.2 0) ln s t = true → (ob sgX h b N = ob sgX h b (upd N.1 4 (rnW X ln s t), X.2)) ∧ rdB (X.2 0) ln s t lo hi = false := by
    intro z
    have z : isN (X.2 0) ln s t = false := by simpa using z
    refine ⟨?_, by unfold rdB; rw [z]; rfl⟩
    rw [show rnW X ln s t = N.1 4 by unfold rnW; rw [z, nx4]; rfl, upd_id, ← nxx]
  simp only [cX hb, gX_0 hb, gX_1 hb, gX_2 hb, gX_3 hb, gX_4 hb, gX_5 hb, pX_1 hb, pX_2 hb, pX_3 hb, pX_4 hb, pX_5 hb, am_b_some, nx1, nx2]
  refine br2 (fun q => ?_) (fun q => ?_)
  · have q := (nI_eq (by omega) (by omega)).mp q
    obtain ⟨k1, k2⟩ := keep (fun z => by unfold isN at z; have := of_decide_eq_true z; omega)
    rw [k2]
    exact ⟨fit_0, rfl, k1⟩
  · have q : ¬ s = ln := fun z => q (by rw [z])
    simp only [cX hb, gX_0 hb, gX_1 hb, gX_2 hb, gX_3 hb, gX_4 hb, gX_5 hb, pX_1 hb, pX_2 hb, pX_3 hb, pX_4 hb, pX_5 hb, am_b_some, nx2, nxx, lX_0 hb (show s < 200 by omega)]
    refine ⟨_, _, ok_dgtC, ?_⟩
    cases qd : dgt (X.2 0 s)
    · rw [if_pos (by rfl)]
      obtain ⟨k1, k2⟩ := keep (fun z => by unfold isN at z; have := of_decide_eq_true z; rw [qd] at this; exact absurd this.2.1 (by decide))
      rw [k2]
      exact ⟨fit_0, rfl, k1⟩
    · rw [if_neg (by decide)]
      simp only [cX hb, gX_0 hb, gX_1 hb, gX_2 hb, gX_3 hb, gX_4 hb, gX_5 hb, pX_1 hb, pX_2 hb, pX_3 hb, pX_4 hb, pX_5 hb, am_b_some, nx2, nx3]
      rw [nI_subd ht.1]
      refine br2 (fun q3 => ?_) (fun q3 => ?_)
      · obtain ⟨k1, k2⟩ := keep (fun z => by
          unfold isN at z
          have := of_decide_eq_true z
          exact absurd q3 (nI_nlt (a := 3) (b := t - s) (by omega) (by omega)))
        rw [k2]
        exact ⟨fit_0, rfl, k1⟩
      · have q3 : t - s ≤ 3 := by
          apply Classical.byContradiction
          intro z
          exact q3 (nI_lt (a := 3) (by omega) (by omega))
        have hi1 : isN (X.2 0) ln s t = true := decide_eq_true ⟨by omega, qd, q3⟩
        have hW : rnW X ln s t = vlF (X.2 0) s (t - s) := by unfold rnW; rw [hi1]; rfl
        have hR : rdB (X.2 0) ln s t lo hi = decide (¬ vlF (X.2 0) s (t - s) < lo ∧ ¬ hi < vlF (X.2 0) s (t - s)) := by unfold rdB; rw [hi1, Bool.true_and]
        rw [hW, hR]
        simp only [cX hb, gX_0 hb, gX_1 hb, gX_2 hb, gX_3 hb, gX_4 hb, gX_5 hb, pX_1 hb, pX_2 hb, pX_3 hb, pX_4 hb, pX_5 hb, am_b_some, upd_ne _ _ (show ¬ 2 = 4 by decide), nx2]
        have key := up_to (P := fun k => am_wa L xs m_X3_readNumber (ob sgX h b X) (some (if decide (¬ vlF (X.2 0) s (t - s) < lo ∧ ¬ hi < vlF (X.2 0) s (t - s)) then 1 else 0)) (ob sgX h b (upd N.1 4 (vlF (X.2 0) s (t - s)), X.2)) 55 [.ref b, .int lo, .int hi, .int (nI (s + k))] [] (ob sgX h b (upd N.1 4 (vlF (X.2 0) s k), X.2))) (t - s) ?_ ?_ 0 (by omega)
        · rw [nxx]
          exact key
        · refine ch_X3_readNumber_55 ?_
          simp only [cX hb, gX_0 hb, gX_1 hb, gX_2 hb, gX_3 hb, gX_4 hb, gX_5 hb, pX_1 hb, pX_2 hb, pX_3 hb, pX_4 hb, pX_5 hb, am_b_some, upd_ne _ _ (show ¬ 3 = 4 by decide), nx3, upd_at]
          rw [if_neg (nI_nlt (by omega) (by omega))]
          refine br2 (fun q4 => ?_) (fun q4 => br2 (fun q5 => ?_) (fun q5 => ?_))
          · rw [decide_eq_false (fun z => z.1 q4)]; (first | exact ⟨fit_0, rfl, rfl⟩ | exact ⟨fit_0, rfl, trivial⟩ | exact ⟨fit_0, trivial, rfl⟩ | exact ⟨fit_0, trivial, trivial⟩)
          · rw [decide_eq_false (fun z => z.2 q5)]; (first | exact ⟨fit_0, rfl, rfl⟩ | exact ⟨fit_0, rfl, trivial⟩ | exact ⟨fit_0, trivial, rfl⟩ | exact ⟨fit_0, trivial, trivial⟩)
          · rw [decide_eq_true ⟨q4, q5⟩]; (first | exact ⟨fit_1, rfl, rfl⟩ | exact ⟨fit_1, rfl, trivial⟩ | exact ⟨fit_1, trivial, rfl⟩ | exact ⟨fit_1, trivial, trivial⟩)
        · intro k hk ih
          refine ch_X3_readNumber_55 ?_
          simp only [cX hb, gX_0 hb, gX_1 hb, gX_2 hb, gX_3 hb, gX_4 hb, gX_5 hb, pX_1 hb, pX_2 hb, pX_3 hb, pX_4 hb, pX_5 hb, am_b_some, upd_ne _ _ (show ¬ 3 = 4 by decide), nx3, upd_at, lX_0 hb (show s + k < 200 by omega), upd_upd]
          rw [if_pos (nI_lt (by omega) (by omega)), ← nI_succ]
          exact ih
def numD (D : sg_S) (f : Nat → Int32) (ln s t k : Nat) : sg_S := nxD (D.1, va_up D.2 16 (upd (D.2 16) k (vlF f s (t - s)))) f ln t
theorem ok_number {s t k : Nat} {lo hi bu : Int32} (hc : c + 10 < h.1) (hl : D.1 8 = nI ln) (h2 : ln ≤ 200) (hf : ∀ i, i < ln → D.2 7 i = f i) (h11 : D.1 11 = nI s) (h12 : D.1 12 = nI t) (hst : s ≤ t) (htl : t ≤ ln) (hk : k < 4) : am_ok L xs m_X5_number [.ref c, .int (nI k), .int lo, .int hi, .int bu] (ob sgD h c D) (some (if rdB f ln s t lo hi && !decide (vlF f s (t - s) = bu) then 1 else 0)) (ob sgD h c (if rdB f ln s t lo hi && !decide (vlF f s (t - s) = bu) then numD D f ln s t k else D)) := by
  refine en_X5_number (cD hc) (by split <;> rfl) (by split <;> rfl) (ch_X5_number_0 ?_)
  have keep : ¬ isN f ln s t = true → (rdB f ln s t lo hi && !decide (vlF f s (t - s) = bu)) = false := by
    intro z
    have z : isN f ln s t = false := by simpa using z
    unfold rdB; rw [z]; rfl
  simp only [cD hc, gD_0 hc, gD_1 hc, gD_2 hc, gD_3 hc, gD_4 hc, gD_5 hc, gD_6 hc, gD_7 hc, gD_8 hc, gD_9 hc, gD_10 hc, gD_11 hc, gD_12 hc, gD_13 hc, gD_14 hc, gD_15 hc, gD_16 hc, gD_17 hc, gD_18 hc, gD_19 hc, pD_1 hc, pD_2 hc, pD_3 hc, pD_5 hc, pD_8 hc, pD_11 hc, pD_12 hc, pD_13 hc, pD_14 hc, pD_15 hc, am_b_some, hl, h11]
  refine br2 (fun q => ?_) (fun q => ?_)
  · have q := (nI_eq (by omega) (by omega)).mp q
    rw [keep (fun z => by unfold isN at z; have := of_decide_eq_true z; omega)]
    exact ⟨fit_0, rfl, rfl⟩
  · have q : ¬ s = ln := fun z => q (by rw [z])
    simp only [cD hc, gD_0 hc, gD_1 hc, gD_2 hc, gD_3 hc, gD_4 hc, gD_5 hc, gD_6 hc, gD_7 hc, gD_8 hc, gD_9 hc, gD_10 hc, gD_11 hc, gD_12 hc, gD_13 hc, gD_14 hc, gD_15 hc, gD_16 hc, gD_17 hc, gD_18 hc, gD_19 hc, pD_1 hc, pD_2 hc, pD_3 hc, pD_5 hc, pD_8 hc, pD_11 hc, pD_12 hc, pD_13 hc, pD_14 hc, pD_15 hc, am_b_some, h11, lD_7 hc (show s < 200 by omega), hf s (show s < ln by omega)]
    refine ⟨_, _, ok_dgtD, ?_⟩
    cases qd : dgt (f s)
    · rw [if_pos (by rfl)]
      rw [keep (fun z => by unfold isN at z; have := of_decide_eq_true z; rw [qd] at this; exact absurd this.2.1 (by decide))]
      exact ⟨fit_0, rfl, rfl⟩
    · rw [if_neg (by decide)]
      simp only [cD hc, gD_0 hc, gD_1 hc, gD_2 hc, gD_3 hc, gD_4 hc, gD_5 hc, gD_6 hc, gD_7 hc, gD_8 hc, gD_9 hc, gD_10 hc, gD_11 hc, gD_12 hc, gD_13 hc, gD_14 hc, gD_15 hc, gD_16 hc, gD_17 hc, gD_18 hc, gD_19 hc, pD_1 hc, pD_2 hc, pD_3 hc, pD_5 hc, pD_8 hc, pD_11 hc, pD_12 hc, pD_13 hc, pD_14 hc, pD_15 hc, am_b_some, h11, h12]
      rw [nI_subd hst]
      refine br2 (fun q3 => ?_) (fun q3 => ?_)
      · rw [keep (fun z => by
          unfold isN at z
          have := of_decide_eq_true z
          exact absurd q3 (nI_nlt (a := 3) (b := t - s) (by omega) (by omega)))]
        exact ⟨fit_0, rfl, rfl⟩
      · have q3 : t - s ≤ 3 := by
          apply Classical.byContradiction
          intro z
          exact q3 (nI_lt (a := 3) (by omega) (by omega))
        have hi1 : isN f ln s t = true := decide_eq_true ⟨by omega, qd, q3⟩
        have hR : rdB f ln s t lo hi = decide (¬ vlF f s (t - s) < lo ∧ ¬ hi < vlF f s (t - s)) := by unfold rdB; rw [hi1, Bool.true_and]
        rw [hR]
        generalize hE : (if (decide (¬ vlF f s (t - s) < lo ∧ ¬ hi < vlF f s (t - s)) && !decide (vlF f s (t - s) = bu)) = true then numD D f ln s t k else D) = E
        generalize hQ : (if (decide (¬ vlF f s (t - s) < lo ∧ ¬ hi < vlF f s (t - s)) && !decide (vlF f s (t - s) = bu)) = true then (1 : Int32) else 0) = Q
        have key := up_to (P := fun j => am_wa L xs m_X5_number (ob sgD h c D) (some Q) (ob sgD h c E) 50 [.ref c, .int (nI k), .int lo, .int hi, .int bu, .int (vlF f s j), .int (nI (s + j))] [] (ob sgD h c D)) (t - s) ?_ ?_ 0 (by omega)
        · exact key
        · refine ch_X5_number_50 ?_
          simp only [cD hc, gD_0 hc, gD_1 hc, gD_2 hc, gD_3 hc, gD_4 hc, gD_5 hc, gD_6 hc, gD_7 hc, gD_8 hc, gD_9 hc, gD_10 hc, gD_11 hc, gD_12 hc, gD_13 hc, gD_14 hc, gD_15 hc, gD_16 hc, gD_17 hc, gD_18 hc, gD_19 hc, pD_1 hc, pD_2 hc, pD_3 hc, pD_5 hc, pD_8 hc, pD_11 hc, pD_12 hc, pD_13 hc, pD_14 hc, pD_15 hc, am_b_some, h12]
          rw [if_neg (nI_nlt (by omega) (by omega))]
          refine ⟨_, _, ok_in, ?_⟩
          by_cases q4 : ¬ vlF f s (t - s) < lo ∧ ¬ hi < vlF f s (t - s)
          · rw [if_neg (nI_yes (decide_eq_true q4))]
            rw [decide_eq_true q4, Bool.true_and] at hE hQ
            by_cases q5 : vlF f s (t - s) = bu
            · rw [if_pos q5, if_pos trivial]
              rw [decide_eq_true q5] at hE hQ
              rw [← hE, ← hQ]
              exact ⟨fit_0, rfl, rfl⟩
            · rw [if_neg q5, if_neg (by decide)]
              rw [decide_eq_false q5] at hE hQ
              simp only [cD hc, gD_0 hc, gD_1 hc, gD_2 hc, gD_3 hc, gD_4 hc, gD_5 hc, gD_6 hc, gD_7 hc, gD_8 hc, gD_9 hc, gD_10 hc, gD_11 hc, gD_12 hc, gD_13 hc, gD_14 hc, gD_15 hc, gD_16 hc, gD_17 hc, gD_18 hc, gD_19 hc, pD_1 hc, pD_2 hc, pD_3 hc, pD_5 hc, pD_8 hc, pD_11 hc, pD_12 hc, pD_13 hc, pD_14 hc, pD_15 hc, am_b_some, sD_16 hc hk]
              refine ⟨_, ok_nextD (f := f) hc hl h2 (by exact hf) h12 htl, ?_⟩
              rw [← hE, ← hQ]
              exact ⟨fit_1, rfl, rfl⟩
          · rw [if_pos (nI_no (decide_eq_false q4)), if_pos trivial]
            rw [decide_eq_false q4, Bool.false_and] at hE hQ
            rw [← hE, ← hQ]
            exact ⟨fit_0, rfl, rfl⟩
        · intro j hj ih
          refine ch_X5_number_50 ?_
          simp only [cD hc, gD_0 hc, gD_1 hc, gD_2 hc, gD_3 hc, gD_4 hc, gD_5 hc, gD_6 hc, gD_7 hc, gD_8 hc, gD_9 hc, gD_10 hc, gD_11 hc, gD_12 hc, gD_13 hc, gD_14 hc, gD_15 hc, gD_16 hc, gD_17 hc, gD_18 hc, gD_19 hc, pD_1 hc, pD_2 hc, pD_3 hc, pD_5 hc, pD_8 hc, pD_11 hc, pD_12 hc, pD_13 hc, pD_14 hc, pD_15 hc, am_b_some, h12, lD_7 hc (show s + j < 200 by omega), hf (s + j) (show s + j < ln by omega)]
          rw [if_pos (nI_lt (by omega) (by omega)), ← nI_succ, Int32.mul_comm]
          exact ih
-- which word stands here
def wdx (w k : Nat) : Int32 := wds.getD (5 * w + k) 0
def gx (f : Nat → Int32) (s t k : Nat) : Int32 := if s + k < t then f (s + k) else 0
def wH (f : Nat → Int32) (s t : Nat) : Nat → Bool := fun w => decide (s < t ∧ t - s < 6 ∧ (∀ k : Nat, k < 5 → wdx w k = gx f s t k))
def wHF (f : Nat → Int32) (s t : Nat) : Nat → Nat → Int32
  | 0, _ => -1
  | d + 1, w => if wH f s t w then nI w else wHF f s t d (w + 1)
theorem ok_wordHere {s t : Nat} (hc : c + 10 < h.1) (h2 : ln ≤ 200) (hf : ∀ i, i < ln → D.2 7 i = f i) (h11 : D.1 11 = nI s) (h12 : D.1 12 = nI t) (hst : s ≤ t) (htl : t ≤ ln) (hw : ∀ i, i < 20 → D.2 17 i = wds.getD i 0) : am_ok L xs m_X5_wordHere [.ref c] (ob sgD h c D) (some (wHF f s t 4 0)) (ob sgD h c D) := by
  refine en_X5_wordHere (cD hc) rfl rfl (ch_X5_wordHere_0 ?_)
  have main : ∀ d w, w + d = 4 → wHF f s t 4 0 = wHF f s t d w → am_wa L xs m_X5_wordHere (ob sgD h c D) (some (wHF f s t 4 0)) (ob sgD h c D) 2 [.ref c, .int (nI w), .null, .null] [] (ob sgD h c D) := by
    intro d
    induction d with
    | zero =>
      intro w hw4 e
      refine ch_X5_wordHere_2 ?_
      rw [if_pos (show (3 : Int32) < nI w from nI_lt (a := 3) (by omega) (by omega)), e]
      exact ⟨fit_i _, rfl, rfl⟩
    | succ d ih =>
      intro w hw4 e
      -- the end of the inner loop
      have fin : ∀ (bb : Bool), (bb = true → wH f s t w = true) → (bb = false → wH f s t w = false) → if ((if bb then (1 : Int32) else 0) : Int32) = 0 then am_wa L xs m_X5_wordHere (ob sgD h c D) (some (wHF f s t 4 0)) (ob sgD h c D) 2 [.ref c, .int (nI w + 1), .null, .null] [] (ob sgD h c D) else am_fit .int (nI w) ∧ some (nI w) = some (wHF f s t 4 0) ∧ ob sgD h c D = ob sgD h c D := by
        intro bb h1 h0
        cases bb
        · rw [if_pos (by rfl), ← nI_succ]
          refine ih (w + 1) (by omega) (e.trans ?_)
          conv => lhs; unfold wHF
          rw [h0 rfl]
          rfl
        · rw [if_neg (by decide)]
          refine ⟨fit_i _, ?_, rfl⟩
          rw [e]
          unfold wHF
          rw [h1 rfl]
          rfl
      have inner : ∀ (bb : Bool) (k : Nat), k ≤ 5 → (bb = true → s < t ∧ t - s < 6 ∧ ∀ j, j < k → wdx w j = gx f s t j) → (bb = false → wH f s t w = false) → am_wa L xs m_X5_wordHere (ob sgD h c D) (some (wHF f s t 4 0)) (ob sgD h c D) 40 [.ref c, .int (nI w), .int (if bb then 1 else 0), .int (nI k)] [] (ob sgD h c D) := by
        intro bb k hk
        obtain ⟨g, hg⟩ : ∃ g, 5 - k = g := ⟨_, rfl⟩
        induction g generalizing bb k with
        | zero =>
          intro h1 h0
          refine ch_X5_wordHere_40 ?_
          rw [if_neg (show ¬ nI k < 5 from nI_nlt (a := k) (b := 5) (by omega) (by omega))]
          refine fin bb (fun z => ?_) h0
          have := h1 z
          refine decide_eq_true ⟨this.1, this.2.1, fun j hj => this.2.2 j (by omega)⟩
        | succ g ihg =>
          intro h1 h0
          refine ch_X5_wordHere_40 ?_
          rw [if_pos (show nI k < 5 from nI_lt (b := 5) (by omega) (by omega))]
          cases bb
          · rw [if_pos (by rfl)]
            exact fin false (fun z => absurd z (by decide)) h0
          · rw [if_neg (by decide)]
            obtain ⟨a1, a2, a3⟩ := h1 rfl
            have e5 : (5 : Int32) * nI w + nI k = nI (5 * w + k) := by
              rw [show (5 : Int32) * nI w = nI (5 * w) from pk_mul 5 w, nI_add]
            simp only [cD hc, gD_0 hc, gD_1 hc, gD_2 hc, gD_3 hc, gD_4 hc, gD_5 hc, gD_6 hc, gD_7 hc, gD_8 hc, gD_9 hc, gD_10 hc, gD_11 hc, gD_12 hc, gD_13 hc, gD_14 hc, gD_15 hc, gD_16 hc, gD_17 hc, gD_18 hc, gD_19 hc, pD_1 hc, pD_2 hc, pD_3 hc, pD_5 hc, pD_8 hc, pD_11 hc, pD_12 hc, pD_13 hc, pD_14 hc, pD_15 hc, am_b_some, e5, lD_17 hc (show 5 * w + k < 20 by omega), hw (5 * w + k) (show 5 * w + k < 20 by omega), h11, h12, nI_add]
            have step : ∀ (x y : Int32), (y = gx f s t k) → x = wdx w k → if x = y then am_wa L xs m_X5_wordHere (ob sgD h c D) (some (wHF f s t 4 0)) (ob sgD h c D) 40 [.ref c, .int (nI w), .int 1, .int (nI k + 1)] [] (ob sgD h c D) else am_wa L xs m_X5_wordHere (ob sgD h c D) (some (wHF f s t 4 0)) (ob sgD h c D) 40 [.ref c, .int (nI w), .int 0, .int (nI k + 1)] [] (ob sgD h c D) := by
              intro x y hy hx
              refine br2 (fun q => ?_) (fun q => ?_)
              · rw [← nI_succ]
                refine ihg true (k + 1) (by omega) (by omega) (fun _ => ⟨a1, a2, fun j hj => ?_⟩) (fun z => absurd z (by decide))
                by_cases ej : j = k
                · rw [ej, ← hx, q, hy]
                · exact a3 j (by omega)
              · rw [← nI_succ]
                refine ihg false (k + 1) (by omega) (by omega) (fun z => absurd z (by decide)) (fun _ => ?_)
                refine decide_eq_false (fun z => q ?_)
                rw [hx, hy]
                exact z.2.2 k (by omega)
            refine br2 (fun q => ?_) (fun q => ?_)
            · have q : s + k < t := by
                apply Classical.byContradiction
                intro z
                exact nI_nlt (a := s + k) (b := t) (by omega) (by omega) q
              simp only [cD hc, gD_0 hc, gD_1 hc, gD_2 hc, gD_3 hc, gD_4 hc, gD_5 hc, gD_6 hc, gD_7 hc, gD_8 hc, gD_9 hc, gD_10 hc, gD_11 hc, gD_12 hc, gD_13 hc, gD_14 hc, gD_15 hc, gD_16 hc, gD_17 hc, gD_18 hc, gD_19 hc, pD_1 hc, pD_2 hc, pD_3 hc, pD_5 hc, pD_8 hc, pD_11 hc, pD_12 hc, pD_13 hc, pD_14 hc, pD_15 hc, am_b_some, h11, nI_add, lD_7 hc (show s + k < 200 by omega), hf (s + k) (show s + k < ln by omega)]
              exact step _ _ (by unfold gx; rw [if_pos q]) rfl
            · have q : ¬ s + k < t := fun z => q (nI_lt z (by omega))
              exact step _ 0 (by unfold gx; rw [if_neg q]) rfl
      refine ch_X5_wordHere_2 ?_
      rw [if_neg (show ¬ (3 : Int32) < nI w from nI_nlt (a := 3) (b := w) (by omega) (by omega))]
      simp only [cD hc, gD_0 hc, gD_1 hc, gD_2 hc, gD_3 hc, gD_4 hc, gD_5 hc, gD_6 hc, gD_7 hc, gD_8 hc, gD_9 hc, gD_10 hc, gD_11 hc, gD_12 hc, gD_13 hc, gD_14 hc, gD_15 hc, gD_16 hc, gD_17 hc, gD_18 hc, gD_19 hc, pD_1 hc, pD_2 hc, pD_3 hc, pD_5 hc, pD_8 hc, pD_11 hc, pD_12 hc, pD_13 hc, pD_14 hc, pD_15 hc, am_b_some, h11, h12]
      refine br2 (fun q => ?_) (fun q => ?_)
      · have q : s < t := by
          apply Classical.byContradiction
          intro z
          exact nI_nlt (a := s) (b := t) (by omega) (by omega) q
        rw [nI_subd hst]
        refine br2 (fun q2 => ?_) (fun q2 => ?_)
        · have q2 : t - s < 6 := by
            apply Classical.byContradiction
            intro z
            exact nI_nlt (a := t - s) (b := 6) (by omega) (by omega) q2
          exact inner true 0 (by omega) (fun _ => ⟨q, q2, fun j hj => by omega⟩) (fun z => absurd z (by decide))
        · exact inner false 0 (by omega) (fun z => absurd z (by decide)) (fun _ => decide_eq_false (fun z => q2 (nI_lt (b := 6) z.2.1 (by omega))))
      · exact inner false 0 (by omega) (fun z => absurd z (by decide)) (fun _ => decide_eq_false (fun z => q (nI_lt z.1 (by omega))))
  exact main 4 0 rfl rfl
end NU
