/-! CLAUSES: the class's -/
def TT (S : Nat → sg_S) (M X : sg_S) : Nat → sg_S := va_up (va_up S 1 M) 12 X
def nxE (f : Nat → Int32) (ln e : Nat) : Nat := tkE f ln (tkS f ln e)
def rlB (f : Nat → Int32) (ln e : Nat) (lo hi : Int32) : Bool := rdB f ln (tkS f ln e) (nxE f ln e) lo hi
def vlE (f : Nat → Int32) (ln e : Nat) : Int32 := vlF f (tkS f ln e) (nxE f ln e - tkS f ln e)
theorem nxE_le (f : Nat → Int32) {ln e : Nat} (h : e ≤ ln) : nxE f ln e ≤ ln := (tkE_le f (tkS_le f h).2).2.1
theorem tk_nx (f : Nat → Int32) {ln e : Nat} (h : e ≤ ln) : tkS f ln e ≤ nxE f ln e := (tkE_le f (tkS_le f h).2).1
/-- numbers in a row: whether all are there, and where the reading stands -/
def seqR (f : Nat → Int32) (ln : Nat) : List (Int32 × Int32) → Nat → Bool × Nat
  | [], e => (true, e)
  | (lo, hi) :: r, e => if rlB f ln e lo hi then seqR f ln r (nxE f ln e) else (false, e)
theorem seqR_le (f : Nat → Int32) {ln : Nat} : ∀ (l : List (Int32 × Int32)) (e : Nat), e ≤ ln → (seqR f ln l e).2 ≤ ln := by
  intro l
  induction l with
  | nil => intro e h; exact h
  | cons q r ih =>
    intro e h
    obtain ⟨lo, hi⟩ := q
    unfold seqR
    split
    · exact ih _ (nxE_le f h)
    · exact h
def tX (X : sg_S) (ln : Nat) (f : Nat → Int32) (cl : Int32) : Prop := X.1 1 = nI ln ∧ X.2 0 = f ∧ X.1 5 = cl
section CL2
variable {L : Nat} {xs : Nat → Int32} {P : st_P} {S : Nat → sg_S} {M N X Y : sg_S} {ln e : Nat} {f : Nat → Int32} {cl : Int32} {kk : Nat} {as : List Value} {r : Option Int32}
theorem TT_1 : TT S M X 1 = M := by unfold TT; rw [vu_ne _ _ (by omega), vu_at]
theorem TT_12 : TT S M X 12 = X := vu_at _ _ _
theorem TT_X : va_up (TT S M X) 12 Y = TT S M Y := by unfold TT; rw [vu_vu]
theorem TT_M : va_up (TT S M X) 1 N = TT S N X := by
  funext i
  unfold TT va_up
  by_cases q : i = 1
  · subst q; simp
  · by_cases q2 : i = 12
    · subst q2; simp
    · simp [q, q2]
theorem onXT (H : am_ok L xs kk as (ob sgX (HP P (TT S M X)) 15 X) r (ob sgX (HP P (TT S M X)) 15 Y)) : am_ok L xs kk as (HP P (TT S M X)) r (HP P (TT S M Y)) := by
  have e1 := fiX (P := P) (S := TT S M X)
  rw [TT_12] at e1
  rw [e1, foX, TT_X] at H
  exact H
theorem onTT (H : am_ok L xs kk as (ob sgM (HP P (TT S M X)) 8 M) r (ob sgM (HP P (TT S M X)) 8 N)) : am_ok L xs kk as (HP P (TT S M X)) r (HP P (TT S N X)) := by
  have e1 := fiT (P := P) (S := TT S M X)
  rw [TT_1] at e1
  rw [e1, foT, TT_M] at H
  exact H
theorem gX4 : am_gI (HP P (TT S M X)) 15 3 4 = some (X.1 4) := by
  conv => lhs; rw [← fiX (P := P) (S := TT S M X)]
  rw [gX_4 bX, TT_12]
theorem gX2 : am_gI (HP P (TT S M X)) 15 3 2 = some (X.1 2) := by
  conv => lhs; rw [← fiX (P := P) (S := TT S M X)]
  rw [gX_2 bX, TT_12]
theorem gX1 : am_gI (HP P (TT S M X)) 15 3 1 = some (X.1 1) := by
  conv => lhs; rw [← fiX (P := P) (S := TT S M X)]
  rw [gX_1 bX, TT_12]
theorem gX5 : am_gI (HP P (TT S M X)) 15 3 5 = some (X.1 5) := by
  conv => lhs; rw [← fiX (P := P) (S := TT S M X)]
  rw [gX_5 bX, TT_12]
theorem gX0 : am_gR (HP P (TT S M X)) 15 3 0 = some (15 + 1) := by
  conv => lhs; rw [← fiX (P := P) (S := TT S M X)]
  rw [gX_0 bX]
theorem lX0 {i : Nat} (hi : i < 200) : am_lI (HP P (TT S M X)) .int (15 + 1) (nI i) = some (X.2 0 i) := by
  conv => lhs; rw [← fiX (P := P) (S := TT S M X)]
  rw [lX_0 bX hi, TT_12]
theorem pX5 {x : Int32} : am_pF (HP P (TT S M X)) 15 3 5 (.int x) = some (HP P (TT S M (upd X.1 5 x, X.2))) := by
  conv => lhs; rw [← fiX (P := P) (S := TT S M X)]
  rw [pX_5 bX, foX, TT_12, TT_X]
theorem pX3 {x : Int32} : am_pF (HP P (TT S M X)) 15 3 3 (.int x) = some (HP P (TT S M (upd X.1 3 x, X.2))) := by
  conv => lhs; rw [← fiX (P := P) (S := TT S M X)]
  rw [pX_3 bX, foX, TT_12, TT_X]
theorem kX : am_cls (HP P S) 15 = some 3 := by
  rw [← fiX (P := P) (S := S)]
  exact cX bX
theorem gT0 : am_gI (HP P (TT S M X)) 8 0 0 = some (M.1 0) := by
  conv => lhs; rw [← fiT (P := P) (S := TT S M X)]
  rw [gM_0 bT, TT_1]
theorem gT5 : am_gR (HP P (TT S M X)) 8 0 5 = some (8 + 1) := by
  conv => lhs; rw [← fiT (P := P) (S := TT S M X)]
  rw [gM_5 bT]
theorem gT6 : am_gR (HP P (TT S M X)) 8 0 6 = some (8 + 2) := by
  conv => lhs; rw [← fiT (P := P) (S := TT S M X)]
  rw [gM_6 bT]
theorem sT5 {v : Nat} {x : Int32} (hv : v < 8) : am_sI (HP P (TT S M X)) .int (8 + 1) (nI v) x = some (HP P (TT S (M.1, va_up M.2 5 (upd (M.2 5) v x)) X)) := by
  conv => lhs; rw [← fiT (P := P) (S := TT S M X)]
  rw [sM_5 bT hv, foT, TT_1, TT_M]
theorem sT6 {v : Nat} {x : Int32} (hv : v < 8) : am_sI (HP P (TT S M X)) .int (8 + 2) (nI v) x = some (HP P (TT S (M.1, va_up M.2 6 (upd (M.2 6) v x)) X)) := by
  conv => lhs; rw [← fiT (P := P) (S := TT S M X)]
  rw [sM_6 bT hv, foT, TT_1, TT_M]
theorem rnHP {lo hi : Int32} (hX : tX X ln f cl) (h2 : ln ≤ 200) (he : X.1 3 = nI e) (hel : e ≤ ln) : ∃ Y, am_ok L xs m_X3_readNumber [.ref 15, .int lo, .int hi] (HP P (TT S M X)) (some (if rlB f ln e lo hi then 1 else 0)) (HP P (TT S M Y)) ∧ tX Y ln f cl ∧ Y.1 2 = nI (tkS f ln e) ∧ Y.1 3 = nI (nxE f ln e) ∧ (rlB f ln e lo hi = true → Y.1 4 = vlE f ln e) := by
  have call := onXT (S := S) (M := M) (P := P) (ok_readNumber (L := L) (xs := xs) (lo := lo) (hi := hi) bX hX.1 h2 he hel)
  obtain ⟨x1, x2, x3⟩ := hX
  refine ⟨rnC X ln e, ?_, ⟨x1, x2, x3⟩, ?_, ?_, fun z => ?_⟩
  · rw [x2] at call
    exact call
  · show nI (tkS (X.2 0) ln e) = _
    rw [x2]
  · show nI (tkE (X.2 0) ln (tkS (X.2 0) ln e)) = _
    rw [x2]; rfl
  · show rnW X ln (tkS (X.2 0) ln e) (tkE (X.2 0) ln (tkS (X.2 0) ln e)) = _
    unfold rlB rdB at z
    rw [Bool.and_eq_true] at z
    unfold rnW
    rw [x2, if_pos (show isN f ln (tkS f ln e) (tkE f ln (tkS f ln e)) = true from z.1)]
    rfl
theorem nxHP (hX : tX X ln f cl) (h2 : ln ≤ 200) (he : X.1 3 = nI e) (hel : e ≤ ln) : ∃ Y, am_ok L xs m_X3_nextToken [.ref 15] (HP P (TT S M X)) none (HP P (TT S M Y)) ∧ tX Y ln f cl ∧ Y.1 2 = nI (tkS f ln e) ∧ Y.1 3 = nI (nxE f ln e) := by
  have call := onXT (S := S) (M := M) (P := P) (ok_nextC (L := L) (xs := xs) bX hX.1 h2 he hel)
  obtain ⟨x1, x2, x3⟩ := hX
  refine ⟨nxC X ln e, call, ⟨x1, x2, x3⟩, ?_, ?_⟩
  · show nI (tkS (X.2 0) ln e) = _
    rw [x2]
  · show nI (tkE (X.2 0) ln (tkS (X.2 0) ln e)) = _
    rw [x2]; rfl
def lsM : List (Int32 × Int32) := [(2, 8), (1, 4), (1, 5), (1, 999)]
theorem ok_readMesh (hX : tX X ln f cl) (h2 : ln ≤ 200) (he : X.1 3 = nI e) (hel : e ≤ ln) : ∃ Y, am_ok L xs m_X3_readMesh [.ref 15, .ref 8] (HP P (TT S M X)) (some (if (seqR f ln lsM e).1 then 1 else 0)) (HP P (TT S (if (seqR f ln lsM e).1 then beginF M (vlE f ln e) (vlE f ln (nxE f ln e)) (vlE f ln (nxE f ln (nxE f ln e))) (vlE f ln (nxE f ln (nxE f ln (nxE f ln e)))) else M) Y)) ∧ tX Y ln f cl ∧ ((seqR f ln lsM e).1 = true → Y.1 3 = nI (seqR f ln lsM e).2) ∧ ((seqR f ln lsM e).1 = false → Y.1 2 = nI (tkS f ln (seqR f ln lsM e).2)) := by
  have h1l := nxE_le f hel
  have h2l := nxE_le f h1l
  have h3l := nxE_le f h2l
  obtain ⟨Y0, a0, a1, a2, a3, a4⟩ := rnHP (L := L) (xs := xs) (S := S) (M := M) (P := P) (lo := 2) (hi := 8) hX h2 he hel
  cases q0 : rlB f ln e 2 8
  · have es : seqR f ln lsM e = (false, e) := by simp [lsM, seqR, q0]
    rw [es]
    rw [q0] at a0
    refine ⟨Y0, en_X3_readMesh kX HP_12 HP_22 (ch_X3_readMesh_0 ⟨_, _, a0, ?_⟩), a1, fun z => (by cases z), fun _ => a2⟩
    rw [if_pos (by rfl)]
    exact ⟨fit_0, rfl, rfl⟩
  · rw [q0] at a0
    obtain ⟨Y1, b0, b1, b2, b3, b4⟩ := rnHP (L := L) (xs := xs) (S := S) (M := M) (P := P) (lo := 1) (hi := 4) a1 h2 a3 h1l
    cases q1 : rlB f ln (nxE f ln e) 1 4
    · have es : seqR f ln lsM e = (false, nxE f ln e) := by simp [lsM, seqR, q0, q1]
      rw [es]
      rw [q1] at b0
      refine ⟨Y1, en_X3_readMesh kX HP_12 HP_22 (ch_X3_readMesh_0 ⟨_, _, a0, ?_⟩), b1, fun z => (by cases z), fun _ => b2⟩
      rw [if_neg (by decide), gX4, am_b_some]
      refine ⟨_, _, b0, ?_⟩
      rw [if_pos (by rfl)]
      exact ⟨fit_0, rfl, rfl⟩
    · rw [q1] at b0
      obtain ⟨Y2, c0, c1, c2, c3, c4⟩ := rnHP (L := L) (xs := xs) (S := S) (M := M) (P := P) (lo := 1) (hi := 5) b1 h2 b3 h2l
      cases q2 : rlB f ln (nxE f ln (nxE f ln e)) 1 5
      · have es : seqR f ln lsM e = (false, nxE f ln (nxE f ln e)) := by simp [lsM, seqR, q0, q1, q2]
        rw [es]
        rw [q2] at c0
        refine ⟨Y2, en_X3_readMesh kX HP_12 HP_22 (ch_X3_readMesh_0 ⟨_, _, a0, ?_⟩), c1, fun z => (by cases z), fun _ => c2⟩
        rw [if_neg (by decide), gX4, am_b_some]
        refine ⟨_, _, b0, ?_⟩
        rw [if_neg (by decide), gX4, am_b_some]
        refine ⟨_, _, c0, ?_⟩
        rw [if_pos (by rfl)]
        exact ⟨fit_0, rfl, rfl⟩
      · rw [q2] at c0
        obtain ⟨Y3, d0, d1, d2, d3, d4⟩ := rnHP (L := L) (xs := xs) (S := S) (M := M) (P := P) (lo := 1) (hi := 999) c1 h2 c3 h3l
        cases q3 : rlB f ln (nxE f ln (nxE f ln (nxE f ln e))) 1 999
        · have es : seqR f ln lsM e = (false, nxE f ln (nxE f ln (nxE f ln e))) := by simp [lsM, seqR, q0, q1, q2, q3]
          rw [es]
          rw [q3] at d0
          refine ⟨Y3, en_X3_readMesh kX HP_12 HP_22 (ch_X3_readMesh_0 ⟨_, _, a0, ?_⟩), d1, fun z => (by cases z), fun _ => d2⟩
          rw [if_neg (by decide), gX4, am_b_some]
          refine ⟨_, _, b0, ?_⟩
          rw [if_neg (by decide), gX4, am_b_some]
          refine ⟨_, _, c0, ?_⟩
          rw [if_neg (by decide), gX4, am_b_some]
          refine ⟨_, _, d0, ?_⟩
          rw [if_pos (by rfl)]
          exact ⟨fit_0, rfl, rfl⟩
        · have es : seqR f ln lsM e = (true, nxE f ln (nxE f ln (nxE f ln (nxE f ln e)))) := by simp [lsM, seqR, q0, q1, q2, q3]
          rw [es]
          rw [q3] at d0
          refine ⟨Y3, en_X3_readMesh kX HP_12 HP_22 (ch_X3_readMesh_0 ⟨_, _, a0, ?_⟩), d1, fun _ => d3, fun z => (by cases z)⟩
          rw [if_neg (by decide), gX4, am_b_some]
          refine ⟨_, _, b0, ?_⟩
          rw [if_neg (by decide), gX4, am_b_some]
          refine ⟨_, _, c0, ?_⟩
          rw [if_neg (by decide), gX4, am_b_some]
          refine ⟨_, _, d0, ?_⟩
          rw [if_neg (by decide), gX4, am_b_some, a4 q0, b4 q1, c4 q2, d4 q3]
          refine ⟨_, onTT (ok_begin bT), ?_⟩
          exact ⟨fit_1, rfl, rfl⟩
end CL2
