/-! CLAUSES: the reference's -/
def nD (D : sg_S) (a b : Nat) (g : Nat → Int32) : sg_S := (upd (upd D.1 11 (nI a)) 12 (nI b), va_up D.2 16 g)
theorem upd4 (f : Nat → Int32) (a b c d : Int32) : upd (upd (upd (upd f 11 a) 12 b) 11 c) 12 d = upd (upd f 11 c) 12 d := by
  funext i
  unfold upd
  by_cases q : i = 12
  · simp [q]
  · by_cases q2 : i = 11
    · simp [q2]
    · simp [q, q2]
theorem nD_nx (D : sg_S) (a b : Nat) (g g' : Nat → Int32) (f : Nat → Int32) (ln e : Nat) : nxD ((nD D a b g).1, va_up (nD D a b g).2 16 g') f ln e = nD D (tkS f ln e) (nxE f ln e) g' := by
  unfold nxD nD
  simp only [upd4, vu_vu]
  rfl
theorem nD_self {D : sg_S} {s t : Nat} (h1 : D.1 11 = nI s) (h2 : D.1 12 = nI t) : nD D s t (D.2 16) = D := by
  unfold nD
  rw [← h1, ← h2, upd_id, upd_id, vu_id]
def tD (D : sg_S) (ln : Nat) (f : Nat → Int32) : Prop := D.1 8 = nI ln ∧ (∀ i, i < ln → D.2 7 i = f i) ∧ ∀ i, i < 20 → D.2 17 i = wds.getD i 0
section CD
variable {L : Nat} {xs : Nat → Int32} {h : am_H} {D : sg_S} {ln e n : Nat} {f g : Nat → Int32}
theorem ok_nxD (hc : 98 + 10 < h.1) (hD : tD D ln f) (h2 : ln ≤ 200) {s t : Nat} (htl : t ≤ ln) : am_ok L xs m_X5_nextToken [.ref 98] (ob sgD h 98 (nD D s t g)) none (ob sgD h 98 (nD D (tkS f ln t) (nxE f ln t) g)) := by
  have := ok_nextD (L := L) (xs := xs) (h := h) (c := 98) (D := nD D s t g) (f := f) (e := t) hc hD.1 h2 hD.2.1 rfl htl
  have e := nD_nx D s t g g f ln t
  rw [show ((nD D s t g).1, va_up (nD D s t g).2 16 g) = nD D s t g by unfold nD; rw [vu_vu]] at e
  rwa [e] at this
theorem ok_numS (hc : 98 + 10 < h.1) (hD : tD D ln f) (h2 : ln ≤ 200) (hel : e ≤ ln) {k : Nat} (hk : k < 4) {lo hi bu : Int32} : am_ok L xs m_X5_number [.ref 98, .int (nI k), .int lo, .int hi, .int bu] (ob sgD h 98 (nD D (tkS f ln e) (nxE f ln e) g)) (some (if rlB f ln e lo hi && !decide (vlE f ln e = bu) then 1 else 0)) (ob sgD h 98 (if rlB f ln e lo hi && !decide (vlE f ln e = bu) then nD D (tkS f ln (nxE f ln e)) (nxE f ln (nxE f ln e)) (upd g k (vlE f ln e)) else nD D (tkS f ln e) (nxE f ln e) g)) := by
  have := ok_number (L := L) (xs := xs) (h := h) (c := 98) (D := nD D (tkS f ln e) (nxE f ln e) g) (f := f) (ln := ln) (s := tkS f ln e) (t := nxE f ln e) (k := k) (lo := lo) (hi := hi) (bu := bu) hc hD.1 h2 hD.2.1 rfl rfl (tk_nx f hel) (nxE_le f hel) hk
  unfold numD at this
  rw [show (nD D (tkS f ln e) (nxE f ln e) g).2 16 = g from rfl, nD_nx] at this
  exact this
theorem rl_m1 {lo hi : Int32} (hlo : (-1 : Int32) < lo) : (rlB f ln e lo hi && !decide (vlE f ln e = -1)) = rlB f ln e lo hi := by
  cases q : rlB f ln e lo hi
  · rfl
  · unfold rlB rdB at q
    rw [Bool.and_eq_true] at q
    have := (of_decide_eq_true q.2).1
    rw [decide_eq_false (fun z => this (by rw [show vlF f (tkS f ln e) (nxE f ln e - tkS f ln e) = -1 from z]; exact hlo))]
    rfl
theorem ok_num (hc : 98 + 10 < h.1) (hD : tD D ln f) (h2 : ln ≤ 200) (hel : e ≤ ln) {k : Nat} (hk : k < 4) {lo hi : Int32} (hlo : (-1 : Int32) < lo) : am_ok L xs m_X5_number [.ref 98, .int (nI k), .int lo, .int hi, .int (-1)] (ob sgD h 98 (nD D (tkS f ln e) (nxE f ln e) g)) (some (if rlB f ln e lo hi then 1 else 0)) (ob sgD h 98 (if rlB f ln e lo hi then nD D (tkS f ln (nxE f ln e)) (nxE f ln (nxE f ln e)) (upd g k (vlE f ln e)) else nD D (tkS f ln e) (nxE f ln e) g)) := by
  have := ok_numS (L := L) (xs := xs) (g := g) (lo := lo) (hi := hi) (bu := -1) hc hD h2 hel hk
  rwa [rl_m1 hlo] at this
def rsG (f : Nat → Int32) (ln w e : Nat) (g : Nat → Int32) : Nat → Int32 := if w = 0 then upd (upd (upd (upd g 0 (vlE f ln e)) 1 (vlE f ln (nxE f ln e))) 2 (vlE f ln (nxE f ln (nxE f ln e)))) 3 (vlE f ln (nxE f ln (nxE f ln (nxE f ln e)))) else upd (upd g 0 (vlE f ln e)) 1 (vlE f ln (nxE f ln e))
theorem ok_rest (hc : 98 + 10 < h.1) (hD : tD D ln f) (h2 : ln ≤ 200) (hel : e ≤ ln) {w : Nat} (hw : w < 4) (hn : D.1 13 = nI n) : ∃ g', am_ok L xs m_X5_readsRest [.ref 98, .int (nI w)] (ob sgD h 98 (nD D (tkS f ln e) (nxE f ln e) g)) (some (if (rsR f ln n w e).1 then 1 else 0)) (ob sgD h 98 (nD D (tkS f ln (rsR f ln n w e).2) (nxE f ln (rsR f ln n w e).2) g')) ∧ ((rsR f ln n w e).1 = true → g' = rsG f ln w e g) := by
  have h1l := nxE_le f hel
  have h2l := nxE_le f h1l
  have h3l := nxE_le f h2l
  have m0 : (-1 : Int32) < 0 := by decide +kernel
  have m1 : (-1 : Int32) < 1 := by decide +kernel
  have m2 : (-1 : Int32) < 2 := by decide +kernel
  have n10 : ¬ nI 1 = nI 0 := by decide +kernel
  have n20 : ¬ nI 2 = nI 0 := by decide +kernel
  have n21 : ¬ nI 2 = nI 1 := by decide +kernel
  have n30 : ¬ nI 3 = nI 0 := by decide +kernel
  have n31 : ¬ nI 3 = nI 1 := by decide +kernel
  have n32 : ¬ nI 3 = nI 2 := by decide +kernel
  have g13 : ∀ a b g', am_gI (ob sgD h 98 (nD D a b g')) 98 5 13 = some (nI n) := fun a b g' => by rw [gD_13 hc]; exact congrArg some hn
  have hw4 : w = 0 ∨ w = 1 ∨ w = 2 ∨ w = 3 := by omega
  rcases hw4 with rfl | rfl | rfl | rfl
  · -- mesh
    have er : rsR f ln n 0 e = seqR f ln lsM e := rfl
    rw [er]
    have a0 := ok_num (L := L) (xs := xs) (g := g) (k := 0) (hi := 8) hc hD h2 hel (by omega) m2
    cases q0 : rlB f ln e 2 8
    · have es : seqR f ln lsM e = (false, e) := by simp [lsM, seqR, q0]
      rw [es]
      rw [q0] at a0
      refine ⟨g, en_X5_readsRest (cD hc) rfl rfl (ch_X5_readsRest_0 ⟨fun _ => ⟨_, _, a0, ?_⟩, fun z => absurd rfl z⟩), fun z => (by cases z)⟩
      rw [if_pos (by rfl)]
      exact ⟨fit_0, rfl, rfl⟩
    · rw [q0] at a0
      have b0 := ok_num (L := L) (xs := xs) (g := upd g 0 (vlE f ln e)) (k := 1) (hi := 4) hc hD h2 h1l (by omega) m1
      cases q1 : rlB f ln (nxE f ln e) 1 4
      · have es : seqR f ln lsM e = (false, nxE f ln e) := by simp [lsM, seqR, q0, q1]
        rw [es]
        rw [q1] at b0
        refine ⟨upd g 0 (vlE f ln e), en_X5_readsRest (cD hc) rfl rfl (ch_X5_readsRest_0 ⟨fun _ => ⟨_, _, a0, ?_⟩, fun z => absurd rfl z⟩), fun z => (by cases z)⟩
        rw [if_neg (by decide)]
        refine ⟨_, _, b0, ?_⟩
        rw [if_pos (by rfl)]
        exact ⟨fit_0, rfl, rfl⟩
      · rw [q1] at b0
        have c0 := ok_num (L := L) (xs := xs) (g := upd (upd g 0 (vlE f ln e)) 1 (vlE f ln (nxE f ln e))) (k := 2) (hi := 5) hc hD h2 h2l (by omega) m1
        cases q2 : rlB f ln (nxE f ln (nxE f ln e)) 1 5
        · have es : seqR f ln lsM e = (false, nxE f ln (nxE f ln e)) := by simp [lsM, seqR, q0, q1, q2]
          rw [es]
          rw [q2] at c0
          refine ⟨upd (upd g 0 (vlE f ln e)) 1 (vlE f ln (nxE f ln e)), en_X5_readsRest (cD hc) rfl rfl (ch_X5_readsRest_0 ⟨fun _ => ⟨_, _, a0, ?_⟩, fun z => absurd rfl z⟩), fun z => (by cases z)⟩
          rw [if_neg (by decide)]
          refine ⟨_, _, b0, ?_⟩
          rw [if_neg (by decide)]
          refine ⟨_, _, c0, ?_⟩
          rw [if_pos (by rfl)]
          exact ⟨fit_0, rfl, rfl⟩
        · rw [q2] at c0
          have d0 := ok_num (L := L) (xs := xs) (g := upd (upd (upd g 0 (vlE f ln e)) 1 (vlE f ln (nxE f ln e))) 2 (vlE f ln (nxE f ln (nxE f ln e)))) (k := 3) (hi := 999) hc hD h2 h3l (by omega) m1
          cases q3 : rlB f ln (nxE f ln (nxE f ln (nxE f ln e))) 1 999
          · have es : seqR f ln lsM e = (false, nxE f ln (nxE f ln (nxE f ln e))) := by simp [lsM, seqR, q0, q1, q2, q3]
            rw [es]
            rw [q3] at d0
            refine ⟨upd (upd (upd g 0 (vlE f ln e)) 1 (vlE f ln (nxE f ln e))) 2 (vlE f ln (nxE f ln (nxE f ln e))), en_X5_readsRest (cD hc) rfl rfl (ch_X5_readsRest_0 ⟨fun _ => ⟨_, _, a0, ?_⟩, fun z => absurd rfl z⟩), fun z => (by cases z)⟩
            rw [if_neg (by decide)]
            refine ⟨_, _, b0, ?_⟩
            rw [if_neg (by decide)]
            refine ⟨_, _, c0, ?_⟩
            rw [if_neg (by decide)]
            refine ⟨_, _, d0, ?_⟩
            rw [if_pos (by rfl)]
            exact ⟨fit_0, rfl, rfl⟩
          · have es : seqR f ln lsM e = (true, nxE f ln (nxE f ln (nxE f ln (nxE f ln e)))) := by simp [lsM, seqR, q0, q1, q2, q3]
            rw [es]
            rw [q3] at d0
            refine ⟨rsG f ln 0 e g, en_X5_readsRest (cD hc) rfl rfl (ch_X5_readsRest_0 ⟨fun _ => ⟨_, _, a0, ?_⟩, fun z => absurd rfl z⟩), fun _ => rfl⟩
            rw [if_neg (by decide)]
            refine ⟨_, _, b0, ?_⟩
            rw [if_neg (by decide)]
            refine ⟨_, _, c0, ?_⟩
            rw [if_neg (by decide)]
            refine ⟨_, _, d0, ?_⟩
            rw [if_neg (by decide)]
            exact ⟨fit_1, rfl, rfl⟩
  · -- link
    have er : rsR f ln n 1 e = lkR f ln n e := rfl
    rw [er]
    have a0 := ok_num (L := L) (xs := xs) (g := g) (k := 0) (hi := nI n - 1) hc hD h2 hel (by omega) m0
    cases q0 : rlB f ln e 0 (nI n - 1)
    · have es : lkR f ln n e = (false, e) := by simp [lkR, lsL, seqR, q0]
      rw [es]
      rw [q0] at a0
      refine ⟨g, en_X5_readsRest (cD hc) rfl rfl (ch_X5_readsRest_0 ⟨fun z => absurd z n10, fun _ => ⟨fun _ => ?_, fun z => absurd rfl z⟩⟩), fun z => (by cases z)⟩
      rw [g13, am_b_some]
      refine ⟨_, _, a0, ?_⟩
      rw [if_pos (by rfl)]
      exact ⟨fit_0, rfl, rfl⟩
    · rw [q0] at a0
      have b0 := ok_numS (L := L) (xs := xs) (g := upd g 0 (vlE f ln e)) (k := 1) (lo := 0) (hi := nI n - 1) (bu := vlE f ln e) hc hD h2 h1l (by omega)
      have l0 : ∀ a b, am_lI (ob sgD h 98 (nD D a b (upd g 0 (vlE f ln e)))) .int (98 + 7) 0 = some (vlE f ln e) := fun a b => by
        rw [show (0 : Int32) = nI 0 from rfl, lD_16 hc (by omega)]
        rfl
      cases q1 : rlB f ln (nxE f ln e) 0 (nI n - 1)
      · have es : lkR f ln n e = (false, nxE f ln e) := by simp [lkR, lsL, seqR, q0, q1]
        rw [es]
        rw [q1, Bool.false_and] at b0
        refine ⟨upd g 0 (vlE f ln e), en_X5_readsRest (cD hc) rfl rfl (ch_X5_readsRest_0 ⟨fun z => absurd z n10, fun _ => ⟨fun _ => ?_, fun z => absurd rfl z⟩⟩), fun z => (by cases z)⟩
        rw [g13, am_b_some]
        refine ⟨_, _, a0, ?_⟩
        rw [if_neg (by decide)]
        simp only [if_true, g13, gD_16 hc, l0, am_b_some]
        refine ⟨_, _, b0, ?_⟩
        rw [if_pos (by rfl)]
        exact ⟨fit_0, rfl, rfl⟩
      · rw [q1, Bool.true_and] at b0
        by_cases q2 : vlE f ln (nxE f ln e) = vlE f ln e
        · have es : lkR f ln n e = (false, nxE f ln e) := by simp [lkR, lsL, seqR, q0, q1, q2]
          rw [es]
          rw [decide_eq_true q2] at b0
          refine ⟨upd g 0 (vlE f ln e), en_X5_readsRest (cD hc) rfl rfl (ch_X5_readsRest_0 ⟨fun z => absurd z n10, fun _ => ⟨fun _ => ?_, fun z => absurd rfl z⟩⟩), fun z => (by cases z)⟩
          rw [g13, am_b_some]
          refine ⟨_, _, a0, ?_⟩
          rw [if_neg (by decide)]
          simp only [if_true, g13, gD_16 hc, l0, am_b_some]
          refine ⟨_, _, b0, ?_⟩
          rw [if_pos (by rfl)]
          exact ⟨fit_0, rfl, rfl⟩
        · have es : lkR f ln n e = (true, nxE f ln (nxE f ln e)) := by simp [lkR, lsL, seqR, q0, q1, q2]
          rw [es]
          rw [decide_eq_false q2] at b0
          refine ⟨rsG f ln 1 e g, en_X5_readsRest (cD hc) rfl rfl (ch_X5_readsRest_0 ⟨fun z => absurd z n10, fun _ => ⟨fun _ => ?_, fun z => absurd rfl z⟩⟩), fun _ => rfl⟩
          rw [g13, am_b_some]
          refine ⟨_, _, a0, ?_⟩
          rw [if_neg (by decide)]
          simp only [if_true, g13, gD_16 hc, l0, am_b_some]
          refine ⟨_, _, b0, ?_⟩
          rw [if_neg (by decide)]
          (first | exact ⟨fit_1, rfl, rfl⟩ | exact ⟨fit_1, rfl, trivial⟩ | exact ⟨fit_1, trivial, rfl⟩ | exact ⟨fit_1, trivial, trivial⟩)
  · -- want
    have er : rsR f ln n 2 e = seqR f ln (lsS n 0 4) e := rfl
    rw [er]
    have a0 := ok_num (L := L) (xs := xs) (g := g) (k := 0) (hi := nI n - 1) hc hD h2 hel (by omega) m0
    cases q0 : rlB f ln e 0 (nI n - 1)
    · have es : seqR f ln (lsS n 0 4) e = (false, e) := by simp [lsS, seqR, q0]
      rw [es]
      rw [q0] at a0
      refine ⟨g, en_X5_readsRest (cD hc) rfl rfl (ch_X5_readsRest_0 ⟨fun z => absurd z n20, fun _ => ⟨fun z => absurd z n21, fun _ => ⟨fun _ => ?_, fun z => absurd rfl z⟩⟩⟩), fun z => (by cases z)⟩
      rw [g13, am_b_some]
      refine ⟨_, _, a0, ?_⟩
      rw [if_pos (by rfl)]
      exact ⟨fit_0, rfl, rfl⟩
    · rw [q0] at a0
      have b0 := ok_num (L := L) (xs := xs) (g := upd g 0 (vlE f ln e)) (k := 1) (lo := 0) (hi := 4) hc hD h2 h1l (by omega) m0
      cases q1 : rlB f ln (nxE f ln e) 0 4
      · have es : seqR f ln (lsS n 0 4) e = (false, nxE f ln e) := by simp [lsS, seqR, q0, q1]
        rw [es]
        rw [q1] at b0
        refine ⟨upd g 0 (vlE f ln e), en_X5_readsRest (cD hc) rfl rfl (ch_X5_readsRest_0 ⟨fun z => absurd z n20, fun _ => ⟨fun z => absurd z n21, fun _ => ⟨fun _ => ?_, fun z => absurd rfl z⟩⟩⟩), fun z => (by cases z)⟩
        rw [g13, am_b_some]
        refine ⟨_, _, a0, ?_⟩
        rw [if_neg (by decide)]
        refine ⟨_, _, b0, ?_⟩
        rw [if_pos (by rfl)]
        exact ⟨fit_0, rfl, rfl⟩
      · have es : seqR f ln (lsS n 0 4) e = (true, nxE f ln (nxE f ln e)) := by simp [lsS, seqR, q0, q1]
        rw [es]
        rw [q1] at b0
        refine ⟨rsG f ln 2 e g, en_X5_readsRest (cD hc) rfl rfl (ch_X5_readsRest_0 ⟨fun z => absurd z n20, fun _ => ⟨fun z => absurd z n21, fun _ => ⟨fun _ => ?_, fun z => absurd rfl z⟩⟩⟩), fun _ => rfl⟩
        rw [g13, am_b_some]
        refine ⟨_, _, a0, ?_⟩
        rw [if_neg (by decide)]
        refine ⟨_, _, b0, ?_⟩
        rw [if_neg (by decide)]
        exact ⟨fit_1, rfl, rfl⟩
  · -- share
    have er : rsR f ln n 3 e = seqR f ln (lsS n 1 16) e := rfl
    rw [er]
    have a0 := ok_num (L := L) (xs := xs) (g := g) (k := 0) (hi := nI n - 1) hc hD h2 hel (by omega) m0
    cases q0 : rlB f ln e 0 (nI n - 1)
    · have es : seqR f ln (lsS n 1 16) e = (false, e) := by simp [lsS, seqR, q0]
      rw [es]
      rw [q0] at a0
      refine ⟨g, en_X5_readsRest (cD hc) rfl rfl (ch_X5_readsRest_0 ⟨fun z => absurd z n30, fun _ => ⟨fun z => absurd z n31, fun _ => ⟨fun z => absurd z n32, fun _ => ?_⟩⟩⟩), fun z => (by cases z)⟩
      rw [g13, am_b_some]
      refine ⟨_, _, a0, ?_⟩
      rw [if_pos (by rfl)]
      exact ⟨fit_0, rfl, rfl⟩
    · rw [q0] at a0
      have b0 := ok_num (L := L) (xs := xs) (g := upd g 0 (vlE f ln e)) (k := 1) (lo := 1) (hi := 16) hc hD h2 h1l (by omega) m1
      cases q1 : rlB f ln (nxE f ln e) 1 16
      · have es : seqR f ln (lsS n 1 16) e = (false, nxE f ln e) := by simp [lsS, seqR, q0, q1]
        rw [es]
        rw [q1] at b0
        refine ⟨upd g 0 (vlE f ln e), en_X5_readsRest (cD hc) rfl rfl (ch_X5_readsRest_0 ⟨fun z => absurd z n30, fun _ => ⟨fun z => absurd z n31, fun _ => ⟨fun z => absurd z n32, fun _ => ?_⟩⟩⟩), fun z => (by cases z)⟩
        rw [g13, am_b_some]
        refine ⟨_, _, a0, ?_⟩
        rw [if_neg (by decide)]
        refine ⟨_, _, b0, ?_⟩
        rw [if_pos (by rfl)]
        exact ⟨fit_0, rfl, rfl⟩
      · have es : seqR f ln (lsS n 1 16) e = (true, nxE f ln (nxE f ln e)) := by simp [lsS, seqR, q0, q1]
        rw [es]
        rw [q1] at b0
        refine ⟨rsG f ln 3 e g, en_X5_readsRest (cD hc) rfl rfl (ch_X5_readsRest_0 ⟨fun z => absurd z n30, fun _ => ⟨fun z => absurd z n31, fun _ => ⟨fun z => absurd z n32, fun _ => ?_⟩⟩⟩), fun _ => rfl⟩
        rw [g13, am_b_some]
        refine ⟨_, _, a0, ?_⟩
        rw [if_neg (by decide)]
        refine ⟨_, _, b0, ?_⟩
        rw [if_neg (by decide)]
        exact ⟨fit_1, rfl, rfl⟩
end CD
-- the word of a token, two ways
theorem wd_tab : ∀ w, w < 4 → ∀ k, k < 5 → wdx w k = (if k < am_sl w then am_sb w k else 0) ∧ (k < am_sl w → ¬ am_sb w k = 0) := by decide +kernel
theorem nz_s {x : Int32} (h : sml x = true) : ¬ x = 0 := fun z => by subst z; exact absurd h (by decide +kernel)
theorem nz_d {x : Int32} (h : dgt x = true) : ¬ x = 0 := fun z => by subst z; exact absurd h (by decide +kernel)
theorem tok_nz (f : Nat → Int32) {ln s i : Nat} (h1 : s < i) (h2 : i < tkE f ln s) : ¬ f i = 0 := by
  unfold tkE at h2
  by_cases q : s < ln
  · rw [if_pos q] at h2
    by_cases q1 : sml (f s) = true
    · rw [if_pos q1] at h2
      exact nz_s (rnF_in sml f _ (s + 1) i (by omega) h2)
    · rw [if_neg q1] at h2
      by_cases q2 : dgt (f s) = true
      · rw [if_pos q2] at h2
        exact nz_d (rnF_in dgt f _ (s + 1) i (by omega) h2)
      · rw [if_neg q2] at h2
        omega
  · rw [if_neg q] at h2
    omega
theorem wH_wdB (f : Nat → Int32) {ln s w : Nat} (hw : w < 4) : wH f s (tkE f ln s) w = wdB f s (tkE f ln s) w := by
  generalize ht : tkE f ln s = t
  have hsl := sl_le w hw
  have key : wH f s t w = true ↔ wdB f s t w = true := by
    unfold wH wdB
    rw [decide_eq_true_eq, decide_eq_true_eq]
    constructor
    · rintro ⟨a1, a2, a3⟩
      have b : ∀ j, j < am_sl w → s + j < t ∧ f (s + j) = am_sb w j := by
        intro j hj
        have e := a3 j (by omega)
        obtain ⟨c1, c2⟩ := wd_tab w hw j (by omega)
        rw [c1, if_pos hj] at e
        unfold gx at e
        by_cases q : s + j < t
        · rw [if_pos q] at e
          exact ⟨q, e.symm⟩
        · rw [if_neg q] at e
          exact absurd e (c2 hj)
      refine ⟨?_, fun j hj => (b j hj).2⟩
      have lo := (b (am_sl w - 1) (by omega)).1
      apply Classical.byContradiction
      intro ne
      have h4 : am_sl w = 4 := by omega
      have e := a3 4 (by omega)
      obtain ⟨c1, _⟩ := wd_tab w hw 4 (by omega)
      rw [c1, if_neg (by omega)] at e
      unfold gx at e
      rw [if_pos (by omega)] at e
      exact tok_nz f (ln := ln) (s := s) (i := s + 4) (by omega) (by rw [ht]; omega) e.symm
    · rintro ⟨a1, a2⟩
      refine ⟨by omega, by omega, fun k hk => ?_⟩
      obtain ⟨c1, _⟩ := wd_tab w hw k hk
      rw [c1]
      unfold gx
      by_cases q : k < am_sl w
      · rw [if_pos q, if_pos (by omega), a2 k q]
      · rw [if_neg q, if_neg (by omega)]
  cases e1 : wH f s t w
  · cases e2 : wdB f s t w
    · rfl
    · rw [key.mpr e2] at e1; exact absurd e1 (by decide)
  · rw [key.mp e1]
theorem wHF_eq (f : Nat → Int32) {ln s : Nat} : wHF f s (tkE f ln s) 4 0 = if wdN f s (tkE f ln s) < 4 then nI (wdN f s (tkE f ln s)) else -1 := by
  unfold wHF wHF wHF wHF wHF wdN
  rw [wH_wdB f (by omega), wH_wdB f (by omega), wH_wdB f (by omega), wH_wdB f (by omega)]
  cases wdB f s (tkE f ln s) 0
  · cases wdB f s (tkE f ln s) 1
    · cases wdB f s (tkE f ln s) 2
      · cases wdB f s (tkE f ln s) 3
        · rfl
        · rfl
      · rfl
    · rfl
  · rfl
