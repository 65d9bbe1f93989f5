/-! CLAUSES: the class's links, wants, shares; a clause of the class -/
def lsL (n : Nat) : List (Int32 × Int32) := [(0, nI n - 1), (0, nI n - 1)]
def lsS (n : Nat) (lo hi : Int32) : List (Int32 × Int32) := [(0, nI n - 1), (lo, hi)]
/-- of a link: the two are not one -/
def lkR (f : Nat → Int32) (ln n e : Nat) : Bool × Nat := if (seqR f ln (lsL n) e).1 then (if vlE f ln (nxE f ln e) = vlE f ln e then (false, nxE f ln e) else seqR f ln (lsL n) e) else seqR f ln (lsL n) e
theorem rl_in {f : Nat → Int32} {ln e n : Nat} (h1 : 1 ≤ n) (h8 : n ≤ 8) (h : rlB f ln e 0 (nI n - 1) = true) : ∃ u, u < n ∧ vlE f ln e = nI u := by
  unfold rlB rdB at h
  rw [Bool.and_eq_true] at h
  have h := h.2
  rw [in_eq h1 (by omega)] at h
  exact isIn_val (by omega) h
section CL3
variable {L : Nat} {xs : Nat → Int32} {P : st_P} {S : Nat → sg_S} {M N X Y : sg_S} {ln e n : Nat} {f : Nat → Int32} {cl : Int32}
def lkM (M : sg_S) (x y : Int32) : sg_S := setL M (JK (M.2 7) x.toNatClampNeg y.toNatClampNeg)
theorem ok_readLink (hX : tX X ln f cl) (h2 : ln ≤ 200) (he : X.1 3 = nI e) (hel : e ≤ ln) (hn : M.1 0 = nI n) (h1 : 1 ≤ n) (h8 : n ≤ 8) : ∃ Y, am_ok L xs m_X3_readLink [.ref 15, .ref 8] (HP P (TT S M X)) (some (if (lkR f ln n e).1 then 1 else 0)) (HP P (TT S (if (lkR f ln n e).1 then lkM M (vlE f ln e) (vlE f ln (nxE f ln e)) else M) Y)) ∧ tX Y ln f cl ∧ ((lkR f ln n e).1 = true → Y.1 3 = nI (lkR f ln n e).2) ∧ ((lkR f ln n e).1 = false → Y.1 2 = nI (tkS f ln (lkR f ln n e).2)) := by
  have h1l := nxE_le f hel
  obtain ⟨Y0, a0, a1, a2, a3, a4⟩ := rnHP (L := L) (xs := xs) (S := S) (M := M) (P := P) (lo := 0) (hi := nI n - 1) hX h2 he hel
  cases q0 : rlB f ln e 0 (nI n - 1)
  · have es : lkR f ln n e = (false, e) := by simp [lkR, lsL, seqR, q0]
    rw [es]
    rw [q0] at a0
    refine ⟨Y0, en_X3_readLink kX HP_12 HP_22 (ch_X3_readLink_0 ?_), a1, fun z => (by cases z), fun _ => a2⟩
    rw [gT0, am_b_some, hn]
    refine ⟨_, _, a0, ?_⟩
    rw [if_pos (by rfl)]
    exact ⟨fit_0, rfl, rfl⟩
  · rw [q0] at a0
    obtain ⟨Y1, b0, b1, b2, b3, b4⟩ := rnHP (L := L) (xs := xs) (S := S) (M := M) (P := P) (lo := 0) (hi := nI n - 1) a1 h2 a3 h1l
    cases q1 : rlB f ln (nxE f ln e) 0 (nI n - 1)
    · have es : lkR f ln n e = (false, nxE f ln e) := by simp [lkR, lsL, seqR, q0, q1]
      rw [es]
      rw [q1] at b0
      refine ⟨Y1, en_X3_readLink kX HP_12 HP_22 (ch_X3_readLink_0 ?_), b1, fun z => (by cases z), fun _ => b2⟩
      rw [gT0, am_b_some, hn]
      refine ⟨_, _, a0, ?_⟩
      rw [if_neg (by decide), gX4, am_b_some, gT0, am_b_some, hn]
      refine ⟨_, _, b0, ?_⟩
      rw [if_pos (by rfl)]
      exact ⟨fit_0, rfl, rfl⟩
    · rw [q1] at b0
      by_cases q2 : vlE f ln (nxE f ln e) = vlE f ln e
      · have es : lkR f ln n e = (false, nxE f ln e) := by simp [lkR, lsL, seqR, q0, q1, q2]
        rw [es]
        refine ⟨Y1, en_X3_readLink kX HP_12 HP_22 (ch_X3_readLink_0 ?_), b1, fun z => (by cases z), fun _ => b2⟩
        rw [gT0, am_b_some, hn]
        refine ⟨_, _, a0, ?_⟩
        rw [if_neg (by decide), gX4, am_b_some, gT0, am_b_some, hn]
        refine ⟨_, _, b0, ?_⟩
        rw [if_neg (by decide), gX4, am_b_some, b4 q1, a4 q0, if_pos q2]
        exact ⟨fit_0, rfl, rfl⟩
      · have es : lkR f ln n e = (true, nxE f ln (nxE f ln e)) := by simp [lkR, lsL, seqR, q0, q1, q2]
        rw [es]
        obtain ⟨u, hu, eu⟩ := rl_in h1 h8 q0
        obtain ⟨v, hv, ev⟩ := rl_in h1 h8 q1
        refine ⟨Y1, en_X3_readLink kX HP_12 HP_22 (ch_X3_readLink_0 ?_), b1, fun _ => b3, fun z => (by cases z)⟩
        rw [gT0, am_b_some, hn]
        refine ⟨_, _, a0, ?_⟩
        rw [if_neg (by decide), gX4, am_b_some, gT0, am_b_some, hn]
        refine ⟨_, _, b0, ?_⟩
        rw [if_neg (by decide), gX4, am_b_some, b4 q1, a4 q0, if_neg q2, am_b_some, eu, ev]
        refine ⟨_, onTT (ok_link (u := u) (v := v) bT (by omega) (by omega)), ?_⟩
        refine ⟨fit_1, rfl, ?_⟩
        unfold lkM
        rw [nI_clamp (by omega), nI_clamp (by omega)]
        rfl
theorem ok_readWant (hX : tX X ln f cl) (h2 : ln ≤ 200) (he : X.1 3 = nI e) (hel : e ≤ ln) (h1 : 1 ≤ n) (h8 : n ≤ 8) {lo hi : Int32} : ∃ Y, am_ok L xs m_X3_readOfStation [.ref 15, .ref (8 + 1), .int (nI n), .int lo, .int hi] (HP P (TT S M X)) (some (if (seqR f ln (lsS n lo hi) e).1 then 1 else 0)) (HP P (TT S (if (seqR f ln (lsS n lo hi) e).1 then (M.1, va_up M.2 5 (upd (M.2 5) (vlE f ln e).toNatClampNeg (vlE f ln (nxE f ln e)))) else M) Y)) ∧ tX Y ln f cl ∧ ((seqR f ln (lsS n lo hi) e).1 = true → Y.1 3 = nI (seqR f ln (lsS n lo hi) e).2) ∧ ((seqR f ln (lsS n lo hi) e).1 = false → Y.1 2 = nI (tkS f ln (seqR f ln (lsS n lo hi) e).2)) := by
  have h1l := nxE_le f hel
  obtain ⟨Y0, a0, a1, a2, a3, a4⟩ := rnHP (L := L) (xs := xs) (S := S) (M := M) (P := P) (lo := 0) (hi := nI n - 1) hX h2 he hel
  cases q0 : rlB f ln e 0 (nI n - 1)
  · have es : seqR f ln (lsS n lo hi) e = (false, e) := by simp [lsS, seqR, q0]
    rw [es]
    rw [q0] at a0
    refine ⟨Y0, en_X3_readOfStation kX HP_12 HP_22 (ch_X3_readOfStation_0 ⟨_, _, a0, ?_⟩), a1, fun z => (by cases z), fun _ => a2⟩
    rw [if_pos (by rfl)]
    exact ⟨fit_0, rfl, rfl⟩
  · rw [q0] at a0
    obtain ⟨Y1, b0, b1, b2, b3, b4⟩ := rnHP (L := L) (xs := xs) (S := S) (M := M) (P := P) (lo := lo) (hi := hi) a1 h2 a3 h1l
    obtain ⟨u, hu, eu⟩ := rl_in h1 h8 q0
    cases q1 : rlB f ln (nxE f ln e) lo hi
    · have es : seqR f ln (lsS n lo hi) e = (false, nxE f ln e) := by simp [lsS, seqR, q0, q1]
      rw [es]
      rw [q1] at b0
      refine ⟨Y1, en_X3_readOfStation kX HP_12 HP_22 (ch_X3_readOfStation_0 ⟨_, _, a0, ?_⟩), b1, fun z => (by cases z), fun _ => b2⟩
      rw [if_neg (by decide), gX4, am_b_some]
      refine ⟨_, _, b0, ?_⟩
      rw [if_pos (by rfl)]
      exact ⟨fit_0, rfl, rfl⟩
    · rw [q1] at b0
      have es : seqR f ln (lsS n lo hi) e = (true, nxE f ln (nxE f ln e)) := by simp [lsS, seqR, q0, q1]
      rw [es]
      refine ⟨Y1, en_X3_readOfStation kX HP_12 HP_22 (ch_X3_readOfStation_0 ⟨_, _, a0, ?_⟩), b1, fun _ => b3, fun z => (by cases z)⟩
      rw [if_neg (by decide), gX4, am_b_some]
      refine ⟨_, _, b0, ?_⟩
      rw [if_neg (by decide), gX4, am_b_some, b4 q1, a4 q0, eu, sT5 (by omega), am_b_some, nI_clamp (by omega)]
      exact ⟨fit_1, rfl, rfl⟩
theorem ok_readShare (hX : tX X ln f cl) (h2 : ln ≤ 200) (he : X.1 3 = nI e) (hel : e ≤ ln) (h1 : 1 ≤ n) (h8 : n ≤ 8) {lo hi : Int32} : ∃ Y, am_ok L xs m_X3_readOfStation [.ref 15, .ref (8 + 2), .int (nI n), .int lo, .int hi] (HP P (TT S M X)) (some (if (seqR f ln (lsS n lo hi) e).1 then 1 else 0)) (HP P (TT S (if (seqR f ln (lsS n lo hi) e).1 then (M.1, va_up M.2 6 (upd (M.2 6) (vlE f ln e).toNatClampNeg (vlE f ln (nxE f ln e)))) else M) Y)) ∧ tX Y ln f cl ∧ ((seqR f ln (lsS n lo hi) e).1 = true → Y.1 3 = nI (seqR f ln (lsS n lo hi) e).2) ∧ ((seqR f ln (lsS n lo hi) e).1 = false → Y.1 2 = nI (tkS f ln (seqR f ln (lsS n lo hi) e).2)) := by
  have h1l := nxE_le f hel
  obtain ⟨Y0, a0, a1, a2, a3, a4⟩ := rnHP (L := L) (xs := xs) (S := S) (M := M) (P := P) (lo := 0) (hi := nI n - 1) hX h2 he hel
  cases q0 : rlB f ln e 0 (nI n - 1)
  · have es : seqR f ln (lsS n lo hi) e = (false, e) := by simp [lsS, seqR, q0]
    rw [es]
    rw [q0] at a0
    refine ⟨Y0, en_X3_readOfStation kX HP_12 HP_22 (ch_X3_readOfStation_0 ⟨_, _, a0, ?_⟩), a1, fun z => (by cases z), fun _ => a2⟩
    rw [if_pos (by rfl)]
    exact ⟨fit_0, rfl, rfl⟩
  · rw [q0] at a0
    obtain ⟨Y1, b0, b1, b2, b3, b4⟩ := rnHP (L := L) (xs := xs) (S := S) (M := M) (P := P) (lo := lo) (hi := hi) a1 h2 a3 h1l
    obtain ⟨u, hu, eu⟩ := rl_in h1 h8 q0
    cases q1 : rlB f ln (nxE f ln e) lo hi
    · have es : seqR f ln (lsS n lo hi) e = (false, nxE f ln e) := by simp [lsS, seqR, q0, q1]
      rw [es]
      rw [q1] at b0
      refine ⟨Y1, en_X3_readOfStation kX HP_12 HP_22 (ch_X3_readOfStation_0 ⟨_, _, a0, ?_⟩), b1, fun z => (by cases z), fun _ => b2⟩
      rw [if_neg (by decide), gX4, am_b_some]
      refine ⟨_, _, b0, ?_⟩
      rw [if_pos (by rfl)]
      exact ⟨fit_0, rfl, rfl⟩
    · rw [q1] at b0
      have es : seqR f ln (lsS n lo hi) e = (true, nxE f ln (nxE f ln e)) := by simp [lsS, seqR, q0, q1]
      rw [es]
      refine ⟨Y1, en_X3_readOfStation kX HP_12 HP_22 (ch_X3_readOfStation_0 ⟨_, _, a0, ?_⟩), b1, fun _ => b3, fun z => (by cases z)⟩
      rw [if_neg (by decide), gX4, am_b_some]
      refine ⟨_, _, b0, ?_⟩
      rw [if_neg (by decide), gX4, am_b_some, b4 q1, a4 q0, eu, sT6 (by omega), am_b_some, nI_clamp (by omega)]
      exact ⟨fit_1, rfl, rfl⟩
/-- which word: 0 .. 3, or 4 for none -/
def wdN (f : Nat → Int32) (s t : Nat) : Nat := if wdB f s t 0 then 0 else if wdB f s t 1 then 1 else if wdB f s t 2 then 2 else if wdB f s t 3 then 3 else 4
/-- the rest of a clause: whether it is right, and where the reading stands -/
def rsR (f : Nat → Int32) (ln n w e : Nat) : Bool × Nat := if w = 0 then seqR f ln lsM e else if w = 1 then lkR f ln n e else if w = 2 then seqR f ln (lsS n 0 4) e else seqR f ln (lsS n 1 16) e
def rsM (f : Nat → Int32) (ln w e : Nat) (M : sg_S) : sg_S := if w = 0 then beginF M (vlE f ln e) (vlE f ln (nxE f ln e)) (vlE f ln (nxE f ln (nxE f ln e))) (vlE f ln (nxE f ln (nxE f ln (nxE f ln e)))) else if w = 1 then lkM M (vlE f ln e) (vlE f ln (nxE f ln e)) else if w = 2 then (M.1, va_up M.2 5 (upd (M.2 5) (vlE f ln e).toNatClampNeg (vlE f ln (nxE f ln e)))) else (M.1, va_up M.2 6 (upd (M.2 6) (vlE f ln e).toNatClampNeg (vlE f ln (nxE f ln e))))
/-- a clause whose word is the token (s, t): right or not, and where -/
def clB (f : Nat → Int32) (ln n s t : Nat) : Bool := decide (wdN f s t < 4) && (rsR f ln n (wdN f s t) t).1
def clP (f : Nat → Int32) (ln n s t : Nat) : Nat := if wdN f s t < 4 then tkS f ln (rsR f ln n (wdN f s t) t).2 else s
def clE (f : Nat → Int32) (ln n s t : Nat) : Nat := (rsR f ln n (wdN f s t) t).2
def clM (f : Nat → Int32) (ln n s t : Nat) (M : sg_S) : sg_S := if clB f ln n s t then rsM f ln (wdN f s t) t M else M
theorem ok_readClause {s t : Nat} (hX : tX X ln f cl) (h2 : ln ≤ 200) (hs : X.1 2 = nI s) (ht : X.1 3 = nI t) (hst : s ≤ t) (htl : t ≤ ln) (hn : M.1 0 = nI n) (h1 : 1 ≤ n) (h8 : n ≤ 8) : ∃ Y, am_ok L xs m_X3_readClause [.ref 15, .ref 8] (HP P (TT S M X)) (some (if clB f ln n s t then 1 else 0)) (HP P (TT S (clM f ln n s t M) Y)) ∧ tX Y ln f cl ∧ (clB f ln n s t = true → Y.1 3 = nI (clE f ln n s t)) ∧ (clB f ln n s t = false → Y.1 2 = nI (clP f ln n s t)) := by
  have wd : ∀ i, i < 4 → am_ok L xs m_X3_isWord [.ref 15, .ref (1000001 + i)] (HP P (TT S M X)) (some (if wdB f s t i then 1 else 0)) (HP P (TT S M X)) := fun i hi => by
    have := onXT (S := S) (M := M) (P := P) (ok_isWord (L := L) (xs := xs) (X := X) bX hi hs ht hst (by omega))
    rwa [hX.2.1] at this
  have wd0 : am_ok L xs m_X3_isWord [.ref 15, .ref 1000001] (HP P (TT S M X)) (some (if wdB f s t 0 then 1 else 0)) (HP P (TT S M X)) := wd 0 (by decide)
  have wd1 : am_ok L xs m_X3_isWord [.ref 15, .ref 1000002] (HP P (TT S M X)) (some (if wdB f s t 1 then 1 else 0)) (HP P (TT S M X)) := wd 1 (by decide)
  have wd2 : am_ok L xs m_X3_isWord [.ref 15, .ref 1000003] (HP P (TT S M X)) (some (if wdB f s t 2 then 1 else 0)) (HP P (TT S M X)) := wd 2 (by decide)
  have wd3 : am_ok L xs m_X3_isWord [.ref 15, .ref 1000004] (HP P (TT S M X)) (some (if wdB f s t 3 then 1 else 0)) (HP P (TT S M X)) := wd 3 (by decide)
  cases w0 : wdB f s t 0
  · cases w1 : wdB f s t 1
    · cases w2 : wdB f s t 2
      · cases w3 : wdB f s t 3
        · have ew : wdN f s t = 4 := by unfold wdN; rw [w0, w1, w2, w3]; rfl
          have eb : clB f ln n s t = false := by unfold clB; rw [ew]; rfl
          have em : clM f ln n s t M = M := by unfold clM; rw [eb]; rfl
          have ep : clP f ln n s t = s := by unfold clP; rw [ew]; rfl
          rw [eb, em, ep]
          refine ⟨X, en_X3_readClause kX HP_12 HP_22 (ch_X3_readClause_0 ⟨_, _, wd0, ?_⟩), hX, fun z => (by cases z), fun _ => hs⟩
          rw [if_pos (nI_no w0)]
          refine ⟨_, _, wd1, ?_⟩
          rw [if_pos (nI_no w1)]
          refine ⟨_, _, wd2, ?_⟩
          rw [if_pos (nI_no w2)]
          refine ⟨_, _, wd3, ?_⟩
          rw [if_pos (nI_no w3)]
          exact ⟨fit_0, rfl, rfl⟩
        · have ew : wdN f s t = 3 := by unfold wdN; rw [w0, w1, w2, w3]; rfl
          obtain ⟨Y, c1, c2, c3, c4⟩ := ok_readShare (L := L) (xs := xs) (S := S) (M := M) (P := P) (n := n) (lo := 1) (hi := 16) hX h2 ht htl h1 h8
          have eb : clB f ln n s t = (seqR f ln (lsS n 1 16) t).1 := by unfold clB; rw [ew]; rfl
          have em : clM f ln n s t M = if (seqR f ln (lsS n 1 16) t).1 then (M.1, va_up M.2 6 (upd (M.2 6) (vlE f ln t).toNatClampNeg (vlE f ln (nxE f ln t)))) else M := by unfold clM; rw [eb, ew]; rfl
          have ep : clP f ln n s t = tkS f ln (seqR f ln (lsS n 1 16) t).2 := by unfold clP; rw [ew]; rfl
          have ee : clE f ln n s t = (seqR f ln (lsS n 1 16) t).2 := by unfold clE; rw [ew]; rfl
          rw [eb, em, ep, ee]
          refine ⟨Y, en_X3_readClause kX HP_12 HP_22 (ch_X3_readClause_0 ⟨_, _, wd0, ?_⟩), c2, c3, c4⟩
          rw [if_pos (nI_no w0)]
          refine ⟨_, _, wd1, ?_⟩
          rw [if_pos (nI_no w1)]
          refine ⟨_, _, wd2, ?_⟩
          rw [if_pos (nI_no w2)]
          refine ⟨_, _, wd3, ?_⟩
          rw [if_neg (nI_yes w3), gT6, am_b_some, gT0, am_b_some, hn]
          exact ⟨_, _, c1, fit_b _, rfl, rfl⟩
      · have ew : wdN f s t = 2 := by unfold wdN; rw [w0, w1, w2]; rfl
        obtain ⟨Y, c1, c2, c3, c4⟩ := ok_readWant (L := L) (xs := xs) (S := S) (M := M) (P := P) (n := n) (lo := 0) (hi := 4) hX h2 ht htl h1 h8
        have eb : clB f ln n s t = (seqR f ln (lsS n 0 4) t).1 := by unfold clB; rw [ew]; rfl
        have em : clM f ln n s t M = if (seqR f ln (lsS n 0 4) t).1 then (M.1, va_up M.2 5 (upd (M.2 5) (vlE f ln t).toNatClampNeg (vlE f ln (nxE f ln t)))) else M := by unfold clM; rw [eb, ew]; rfl
        have ep : clP f ln n s t = tkS f ln (seqR f ln (lsS n 0 4) t).2 := by unfold clP; rw [ew]; rfl
        have ee : clE f ln n s t = (seqR f ln (lsS n 0 4) t).2 := by unfold clE; rw [ew]; rfl
        rw [eb, em, ep, ee]
        refine ⟨Y, en_X3_readClause kX HP_12 HP_22 (ch_X3_readClause_0 ⟨_, _, wd0, ?_⟩), c2, c3, c4⟩
        rw [if_pos (nI_no w0)]
        refine ⟨_, _, wd1, ?_⟩
        rw [if_pos (nI_no w1)]
        refine ⟨_, _, wd2, ?_⟩
        rw [if_neg (nI_yes w2), gT5, am_b_some, gT0, am_b_some, hn]
        exact ⟨_, _, c1, fit_b _, rfl, rfl⟩
    · have ew : wdN f s t = 1 := by unfold wdN; rw [w0, w1]; rfl
      obtain ⟨Y, c1, c2, c3, c4⟩ := ok_readLink (L := L) (xs := xs) (S := S) (M := M) (P := P) hX h2 ht htl hn h1 h8
      have eb : clB f ln n s t = (lkR f ln n t).1 := by unfold clB; rw [ew]; rfl
      have em : clM f ln n s t M = if (lkR f ln n t).1 then lkM M (vlE f ln t) (vlE f ln (nxE f ln t)) else M := by unfold clM; rw [eb, ew]; rfl
      have ep : clP f ln n s t = tkS f ln (lkR f ln n t).2 := by unfold clP; rw [ew]; rfl
      have ee : clE f ln n s t = (lkR f ln n t).2 := by unfold clE; rw [ew]; rfl
      rw [eb, em, ep, ee]
      refine ⟨Y, en_X3_readClause kX HP_12 HP_22 (ch_X3_readClause_0 ⟨_, _, wd0, ?_⟩), c2, c3, c4⟩
      rw [if_pos (nI_no w0)]
      refine ⟨_, _, wd1, ?_⟩
      rw [if_neg (nI_yes w1)]
      exact ⟨_, _, c1, fit_b _, rfl, rfl⟩
  · have ew : wdN f s t = 0 := by unfold wdN; rw [w0]; rfl
    obtain ⟨Y, c1, c2, c3, c4⟩ := ok_readMesh (L := L) (xs := xs) (S := S) (M := M) (P := P) hX h2 ht htl
    have eb : clB f ln n s t = (seqR f ln lsM t).1 := by unfold clB; rw [ew]; rfl
    have em : clM f ln n s t M = if (seqR f ln lsM t).1 then beginF M (vlE f ln t) (vlE f ln (nxE f ln t)) (vlE f ln (nxE f ln (nxE f ln t))) (vlE f ln (nxE f ln (nxE f ln (nxE f ln t)))) else M := by unfold clM; rw [eb, ew]; rfl
    have ep : clP f ln n s t = tkS f ln (seqR f ln lsM t).2 := by unfold clP; rw [ew]; rfl
    have ee : clE f ln n s t = (seqR f ln lsM t).2 := by unfold clE; rw [ew]; rfl
    rw [eb, em, ep, ee]
    refine ⟨Y, en_X3_readClause kX HP_12 HP_22 (ch_X3_readClause_0 ⟨_, _, wd0, ?_⟩), c2, c3, c4⟩
    rw [if_neg (nI_yes w0)]
    exact ⟨_, _, c1, fit_b _, rfl, rfl⟩
end CL3
