/-! THE REFERENCE: shares, the cycle whole, frames, rows copied -/
theorem shL_at (K : Nat → Int32) (n : Nat) (a se : Int32) (f : Nat → Int32) : ∀ s j, s ≤ j → shL K n a se f s j = f j := by
  intro s
  induction s with
  | zero => intro j _; rfl
  | succ s ih =>
    intro j hj
    have h1 := ih j (by omega)
    unfold shL
    split
    · split
      · exact h1
      · rw [upd_ne _ _ (by omega)]; exact h1
    · split
      · rw [upd_ne _ _ (by omega)]; exact h1
      · exact h1
theorem shL_TZ {K : Nat → Int32} {n : Nat} {a se : Int32} {f : Nat → Int32} (h : TZ f) : ∀ {s : Nat}, s ≤ 8 → TZ (shL K n a se f s) := by
  intro s
  induction s with
  | zero => intro _; exact h
  | succ s ih =>
    intro hs
    have h1 := ih (by omega)
    unfold shL
    split
    · split
      · exact h1
      · exact TZ_upd h1 (by omega) _
    · split
      · exact TZ_upd h1 (by omega) _
      · exact h1
def shOk (f : Nat → Int32) : Prop := ∀ v, v < 8 → ∃ q, 1 ≤ q ∧ q < 17 ∧ f v = nI q
theorem sh_half : ∀ q, q < 17 → 1 ≤ q → (if (1 : Int32) < nI q / 2 then nI q / 2 else 1) = (if nI q < 2 then 1 else nI q / 2) := by decide +kernel
theorem sh_dbl : ∀ q, q < 17 → 1 ≤ q → (if nI q * 2 < 16 then nI q * 2 else 16) = (if 8 < nI q then 16 else 2 * nI q) := by decide +kernel
theorem sh_half_ok : ∀ q, q < 17 → 1 ≤ q → ∃ p, p < 17 ∧ 1 ≤ p ∧ (if (1 : Int32) < nI q / 2 then nI q / 2 else 1) = nI p := by
  intro q hq h1
  have e : nI q / 2 = nI (q / 2) := nI_half (by omega)
  rw [e]
  by_cases c : 1 < q / 2
  · exact ⟨q / 2, by omega, by omega, if_pos (nI_lt (a := 1) c (by omega))⟩
  · exact ⟨1, by omega, by omega, if_neg (show ¬ (1 : Int32) < nI (q / 2) from nI_nlt (a := 1) (b := q / 2) (by omega) (by omega))⟩
theorem sh_dbl_ok : ∀ q, q < 17 → 1 ≤ q → ∃ p, p < 17 ∧ 1 ≤ p ∧ (if nI q * 2 < 16 then nI q * 2 else 16) = nI p := by
  intro q hq h1
  have e : nI q * 2 = nI (q * 2) := pk_mul q 2
  rw [e]
  by_cases c : q * 2 < 16
  · exact ⟨q * 2, by omega, by omega, if_pos (nI_lt (b := 16) c (by omega))⟩
  · exact ⟨16, by omega, by omega, if_neg (nI_nlt (b := 16) (by omega) (by omega))⟩
theorem shL_ok {K : Nat → Int32} {n : Nat} {a se : Int32} {f : Nat → Int32} (h : shOk f) : ∀ {s : Nat}, s ≤ 8 → shOk (shL K n a se f s) := by
  intro s
  induction s with
  | zero => intro _; exact h
  | succ s ih =>
    intro hs
    have h1 := ih (by omega)
    obtain ⟨q, q1, q2, q3⟩ := h1 s (by omega)
    unfold shL
    split
    · split
      · exact h1
      · intro v hv
        by_cases e : v = s
        · subst e
          rw [upd_at, q3]
          obtain ⟨p, p1, p2, p3⟩ := sh_half_ok q q2 q1
          exact ⟨p, p2, p1, p3⟩
        · rw [upd_ne _ _ e]; exact h1 v hv
    · split
      · intro v hv
        by_cases e : v = s
        · subst e
          rw [upd_at, q3]
          obtain ⟨p, p1, p2, p3⟩ := sh_dbl_ok q q2 q1
          exact ⟨p, p2, p1, p3⟩
        · rw [upd_ne _ _ e]; exact h1 v hv
      · exact h1
theorem joF_bit {K : Nat → Int32} {n : Nat} {se : Int32} (h8 : n ≤ 8) {i : Nat} (hi : i < n) (hs : sm (K i)) : bt (joF K n se) i = (!bt (nearTo K n se ||| se) i && decide (¬ K i &&& nearTo K n se = 0)) := by
  unfold joF hearing
  rw [b_and, bt_not (by omega), bt_bs _ (by omega) (by omega), decide_eq_true hi, Bool.true_and, Bool.and_comm]
  congr 1
  unfold hears
  exact decide_eq_decide.mpr (by
    have := pop_zero (sm_and (y := nearTo K n se) hs)
    constructor
    · intro z e; have := this.mpr e; omega
    · intro z
      rcases Nat.eq_zero_or_pos (pop (K i &&& nearTo K n se)) with q | q
      · exact absurd (this.mp q) z
      · exact q)
theorem hearD_eq {K : Nat → Int32} {n q : Nat} {a x : Int32} (h8 : n ≤ 8) : bs (fun v => bt ((((1 : Int32) <<< (nI n &&& 31)) - 1) &&& (a ^^^ (-1))) v && hears K x q v) n = hearing K n x q &&& (a ^^^ (-1)) := by
  apply b_ext
  intro i hi
  rw [b_and, bt_bs _ (by omega) hi]
  unfold hearing
  rw [bt_bs _ (by omega) hi, b_and, bt_mask n (by omega) i hi, bt_not hi]
  by_cases c : i < n
  · simp only [c, decide_true, Bool.true_and]
    rw [Bool.and_comm]
  · simp [c]
theorem hearC_eq {K : Nat → Int32} {n q : Nat} {a x : Int32} (h8 : n ≤ 8) : a &&& (bs (fun v => bt a v && hears K x q v) n ^^^ (-1)) = a &&& (hearing K n x q ^^^ (-1)) := by
  apply b_ext
  intro i hi
  rw [b_and, b_and, bt_not hi, bt_not hi]
  unfold hearing
  rw [bt_bs _ (by omega) hi, bt_bs _ (by omega) hi]
  cases bt a i
  · rfl
  · simp
section D4
variable {L : Nat} {xs : Nat → Int32} {h : am_H} {c B n v s t : Nat} {D : sg_S} {k : Nat → Int32}
theorem ok_shares (hc : c + 10 < h.1) (hB : B + 31 ≤ 372) (hn : D.1 1 = nI n) (h8 : n ≤ 8) (hk : ∀ v, v < 8 → sm (seg k 17 v)) (hsh : shOk (seg k 1)) {a se : Int32} : am_ok L xs m_X5_shares [.ref c, .int (nI B), .int a, .int se] (ob sgD h c (dB D B k)) none (ob sgD h c (dB D B (fb_put k (shL (seg k 17) n a se (seg k 1) n) 1 8))) := by
  refine en_X5_shares (cD hc) rfl rfl (ch_X5_shares_0 ⟨_, _, ok_nearToD hc hB hn h8, ?_⟩)
  have key := up_to (P := fun i => am_wa L xs m_X5_shares (ob sgD h c (dB D B k)) none (ob sgD h c (dB D B (fb_put k (shL (seg k 17) n a se (seg k 1) n) 1 8))) 11 [.ref c, .int (nI B), .int a, .int se, .int (nearTo (seg k 17) n se), .int (nI i), .null] [] (ob sgD h c (dB D B (fb_put k (shL (seg k 17) n a se (seg k 1) i) 1 8)))) n ?_ ?_ 0 (by omega)
  · simp only [shL, fb_put_seg] at key
    exact key
  · refine ch_X5_shares_11 ?_
    simp only [cD hc, gD_0 hc, gD_1 hc, gD_2 hc, gD_3 hc, gD_4 hc, gD_5 hc, gD_6 hc, gD_7 hc, gD_8 hc, gD_9 hc, gD_10 hc, gD_11 hc, gD_12 hc, gD_13 hc, gD_14 hc, gD_15 hc, gD_16 hc, gD_17 hc, gD_18 hc, gD_19 hc, pD_1 hc, pD_2 hc, pD_3 hc, pD_5 hc, pD_8 hc, pD_11 hc, pD_12 hc, pD_13 hc, pD_14 hc, pD_15 hc, dB_1, am_b_some, hn]
    rw [if_neg (nI_irr n)]
    (first | exact ⟨rfl, rfl⟩ | exact ⟨rfl, trivial⟩ | exact ⟨trivial, rfl⟩ | exact ⟨trivial, trivial⟩ | exact trivial)
  · intro i hi ih
    have hi8 : i < 8 := by omega
    have hTZ : TZ (shL (seg k 17) n a se (seg k 1) i) := shL_TZ (TZ_seg _ _) (by omega)
    have hat : shL (seg k 17) n a se (seg k 1) i i = seg k 1 i := shL_at _ _ _ _ _ _ _ (Nat.le_refl _)
    obtain ⟨q, q1, q2, q3⟩ := hsh i hi8
    have hsame : upd (shL (seg k 17) n a se (seg k 1) i) i (seg k 1 i) = shL (seg k 17) n a se (seg k 1) i := by
      rw [← hat, upd_id]
    have e17 : seg (fb_put k (shL (seg k 17) n a se (seg k 1) i) 1 8) 17 = seg k 17 := seg_put_ne (by omega)
    refine ch_X5_shares_11 ?_
    simp only [cD hc, gD_0 hc, gD_1 hc, gD_2 hc, gD_3 hc, gD_4 hc, gD_5 hc, gD_6 hc, gD_7 hc, gD_8 hc, gD_9 hc, gD_10 hc, gD_11 hc, gD_12 hc, gD_13 hc, gD_14 hc, gD_15 hc, gD_16 hc, gD_17 hc, gD_18 hc, gD_19 hc, pD_1 hc, pD_2 hc, pD_3 hc, pD_5 hc, pD_8 hc, pD_11 hc, pD_12 hc, pD_13 hc, pD_14 hc, pD_15 hc, dB_1, am_b_some, hn, ix1, lS hc hB (show 1 + 8 ≤ 31 by omega) hi8, seg_put hTZ, hat]
    rw [if_pos (nI_lt hi (by omega))]
    refine ⟨_, _, ok_hasD (by omega), br2 (fun c1 => ⟨_, _, ok_hasD (by omega), br2 (fun c2 => ?_) (fun c2 => ?_)⟩) (fun c1 => ⟨_, _, ok_hasD (by omega), br2 (fun c2 => br2 (fun c3 => ?_) (fun c3 => ?_)) (fun c2 => ?_)⟩)⟩
    · rw [bz_ne] at c1 c2
      simp only [cD hc, gD_0 hc, gD_1 hc, gD_2 hc, gD_3 hc, gD_4 hc, gD_5 hc, gD_6 hc, gD_7 hc, gD_8 hc, gD_9 hc, gD_10 hc, gD_11 hc, gD_12 hc, gD_13 hc, gD_14 hc, gD_15 hc, gD_16 hc, gD_17 hc, gD_18 hc, gD_19 hc, pD_1 hc, pD_2 hc, pD_3 hc, pD_5 hc, pD_8 hc, pD_11 hc, pD_12 hc, pD_13 hc, pD_14 hc, pD_15 hc, dB_1, am_b_some, ix1, ix17, lS hc hB (show 17 + 8 ≤ 31 by omega) hi8, sS hc hB (show 1 + 8 ≤ 31 by omega) hi8, e17, fb_upd _ _ hi8]
      have hj := joF_bit (se := se) h8 hi (hk i hi8)
      refine br2 (fun c3 => ?_) (fun c3 => br2 (fun c4 => ?_) (fun c4 => ?_))
      · rw [decide_eq_false (by simp [c3]), Bool.and_false] at hj
        simp only [shL, c1, hj, Bool.false_eq_true, if_false] at ih
        rw [hsame, ← nI_succ]
        exact ih
      · rw [decide_eq_true c3, c2] at hj
        simp only [shL, c1, show bt (joF (seg k 17) n se) i = true by simpa using hj, if_true, Bool.false_eq_true, if_false] at ih
        rw [hat, q3, sh_dbl q q2 q1, if_pos (by rw [← q3]; exact c4)] at ih
        rw [← nI_succ]
        exact ih
      · rw [decide_eq_true c3, c2] at hj
        simp only [shL, c1, show bt (joF (seg k 17) n se) i = true by simpa using hj, if_true, Bool.false_eq_true, if_false] at ih
        rw [hat, q3, sh_dbl q q2 q1, if_neg (by rw [← q3]; exact c4)] at ih
        rw [← nI_succ, q3]
        exact ih
    · rw [bz_ne] at c1 c2
      have hj := joF_bit (se := se) h8 hi (hk i hi8)
      rw [show bt (nearTo (seg k 17) n se ||| se) i = true by simpa using c2] at hj
      simp only [shL, c1, show bt (joF (seg k 17) n se) i = false by simpa using hj, Bool.false_eq_true, if_false] at ih
      simp only [cD hc, gD_0 hc, gD_1 hc, gD_2 hc, gD_3 hc, gD_4 hc, gD_5 hc, gD_6 hc, gD_7 hc, gD_8 hc, gD_9 hc, gD_10 hc, gD_11 hc, gD_12 hc, gD_13 hc, gD_14 hc, gD_15 hc, gD_16 hc, gD_17 hc, gD_18 hc, gD_19 hc, pD_1 hc, pD_2 hc, pD_3 hc, pD_5 hc, pD_8 hc, pD_11 hc, pD_12 hc, pD_13 hc, pD_14 hc, pD_15 hc, am_b_some, ix1, sS hc hB (show 1 + 8 ≤ 31 by omega) hi8, fb_upd _ _ hi8]
      rw [hsame, ← nI_succ]
      exact ih
    · rw [bz_ne] at c1 c2
      simp only [shL, show bt a i = true by simpa using c1, c2, if_true, Bool.false_eq_true, if_false] at ih
      rw [hat, q3, sh_half q q2 q1, if_pos (by rw [← q3]; exact c3)] at ih
      simp only [cD hc, gD_0 hc, gD_1 hc, gD_2 hc, gD_3 hc, gD_4 hc, gD_5 hc, gD_6 hc, gD_7 hc, gD_8 hc, gD_9 hc, gD_10 hc, gD_11 hc, gD_12 hc, gD_13 hc, gD_14 hc, gD_15 hc, gD_16 hc, gD_17 hc, gD_18 hc, gD_19 hc, pD_1 hc, pD_2 hc, pD_3 hc, pD_5 hc, pD_8 hc, pD_11 hc, pD_12 hc, pD_13 hc, pD_14 hc, pD_15 hc, am_b_some, ix1, sS hc hB (show 1 + 8 ≤ 31 by omega) hi8, fb_upd _ _ hi8]
      rw [← nI_succ]
      exact ih
    · rw [bz_ne] at c1 c2
      simp only [shL, show bt a i = true by simpa using c1, c2, if_true, Bool.false_eq_true, if_false] at ih
      rw [hat, q3, sh_half q q2 q1, if_neg (by rw [← q3]; exact c3)] at ih
      refine ⟨by decide +kernel, ?_⟩
      simp only [cD hc, gD_0 hc, gD_1 hc, gD_2 hc, gD_3 hc, gD_4 hc, gD_5 hc, gD_6 hc, gD_7 hc, gD_8 hc, gD_9 hc, gD_10 hc, gD_11 hc, gD_12 hc, gD_13 hc, gD_14 hc, gD_15 hc, gD_16 hc, gD_17 hc, gD_18 hc, gD_19 hc, pD_1 hc, pD_2 hc, pD_3 hc, pD_5 hc, pD_8 hc, pD_11 hc, pD_12 hc, pD_13 hc, pD_14 hc, pD_15 hc, am_b_some, ix1, sS hc hB (show 1 + 8 ≤ 31 by omega) hi8, fb_upd _ _ hi8]
      rw [← nI_succ, q3]
      exact ih
    · rw [bz_ne] at c1 c2
      simp only [shL, show bt a i = true by simpa using c1, show bt se i = true by simpa using c2, if_true, Bool.false_eq_true, if_false] at ih
      simp only [cD hc, gD_0 hc, gD_1 hc, gD_2 hc, gD_3 hc, gD_4 hc, gD_5 hc, gD_6 hc, gD_7 hc, gD_8 hc, gD_9 hc, gD_10 hc, gD_11 hc, gD_12 hc, gD_13 hc, gD_14 hc, gD_15 hc, gD_16 hc, gD_17 hc, gD_18 hc, gD_19 hc, pD_1 hc, pD_2 hc, pD_3 hc, pD_5 hc, pD_8 hc, pD_11 hc, pD_12 hc, pD_13 hc, pD_14 hc, pD_15 hc, am_b_some, ix1, sS hc hB (show 1 + 8 ≤ 31 by omega) hi8, fb_upd _ _ hi8]
      rw [hsame, ← nI_succ]
      exact ih
/-- the block behind a cycle of the mesh M -/
def cyB (M : sg_S) (k : Nat → Int32) (n t : Nat) : Nat → Int32 := upd (upd (upd (upd (upd (upd (fb_put (fb_put (upd k 0 (cyD M n t).2) (cyS M n t).1 9 8) (shL (M.2 7) n (cyA M n t).1 (cyS M n t).2 (M.2 6) n) 1 8) 25 (cyA M n t).1) 26 (cyR M n t)) 27 (cyF M n t)) 28 (cyN M n t)) 29 (cyS M n t).2) 30 1
/-- a block of the reference's row holds a mesh of the class -/
def mOf (M D : sg_S) (k : Nat → Int32) : Prop := (D.2 4 = M.2 5 ∧ seg k 1 = M.2 6 ∧ seg k 17 = M.2 7 ∧ seg k 9 = M.2 8) ∧ k 0 = M.1 3
theorem ask_lt {Sh : Nat → Int32} {C l : Int32} : ∀ {s : Nat}, s ≤ 8 → ∀ i, i < 32 → bt (askL Sh C l s).1 i = true → i < s := by
  intro s
  induction s with
  | zero => intro _ i _ h; simp only [askL, b_0] at h; cases h
  | succ s ih =>
    intro hs i hi h
    unfold askL at h
    have lift : bt (askL Sh C l s).1 i = true → i < s + 1 := fun z => by have := ih (by omega) i hi z; omega
    split at h
    · split at h
      · rw [b_or, bt_one (by omega) hi] at h
        rcases Bool.or_eq_true _ _ |>.mp h with z | z
        · exact lift z
        · have := of_decide_eq_true z; omega
      · exact lift h
    · exact lift h
theorem cyF_lt {M : sg_S} {n t : Nat} (h8 : n ≤ 8) : ∀ i, i < 32 → bt (cyF M n t) i = true → i < n := by
  intro i hi h
  unfold cyF at h
  rw [b_and, Bool.and_eq_true] at h
  exact ask_lt h8 i hi h.1
theorem cyD_fC {M : sg_S} {n t : Nat} : ∀ s, s < n → (cyD M n t).1 s = fC (cyF M n t) (cyA M n t).2 s := by
  intro s hs
  unfold cyD fC
  rw [drL_1, if_pos hs]
theorem ok_cycleOf (hc : c + 10 < h.1) (hB : B + 31 ≤ 372) (hn : D.1 1 = nI n) (h8 : n ≤ 8) {M : sg_S} (hM : mOf M D k) (hk : ∀ v, v < 8 → sm (M.2 7 v)) (hsh : shOk (M.2 6)) (hl : lotOk (M.1 3)) (ht : t < 4) : am_ok L xs m_X5_cycleOf [.ref c, .int (nI B), .int (nI t)] (ob sgD h c (dB D B k)) none (ob sgD h c (dB (D.1, va_up D.2 18 (drL (cyF M n t) 0 (cyA M n t).2 (D.2 18) n).1) B (cyB M k n t))) := by
  obtain ⟨⟨e5, e6, e7, e8⟩, e3⟩ := hM
  refine en_X5_cycleOf (cD hc) rfl rfl (ch_X5_cycleOf_0 ?_)
  simp only [cD hc, gD_0 hc, gD_1 hc, gD_2 hc, gD_3 hc, gD_4 hc, gD_5 hc, gD_6 hc, gD_7 hc, gD_8 hc, gD_9 hc, gD_10 hc, gD_11 hc, gD_12 hc, gD_13 hc, gD_14 hc, gD_15 hc, gD_16 hc, gD_17 hc, gD_18 hc, gD_19 hc, pD_1 hc, pD_2 hc, pD_3 hc, pD_5 hc, pD_8 hc, pD_11 hc, pD_12 hc, pD_13 hc, pD_14 hc, pD_15 hc, dB_1, am_b_some, hn]
  have hA : askL (seg k 1) (contF (seg k 17) (D.2 4) (seg k 9) n t) (k 0) n = cyA M n t := by rw [e5, e6, e7, e8, e3]; rfl
  have a1 := ok_asking (L := L) (xs := xs) (h := h) (k := k) hc hB hn h8 (show t < 32 by omega)
  rw [hA] at a1
  refine ⟨_, _, a1, ?_⟩
  generalize hk1 : upd k 0 (cyA M n t).2 = k1
  have s17 : seg k1 17 = M.2 7 := by rw [← hk1, seg_ne _ _ _ _ (by omega), e7]
  have s9 : seg k1 9 = M.2 8 := by rw [← hk1, seg_ne _ _ _ _ (by omega), e8]
  have s1 : seg k1 1 = M.2 6 := by rw [← hk1, seg_ne _ _ _ _ (by omega), e6]
  have z0 : k1 0 = (cyA M n t).2 := by rw [← hk1, upd_at]
  have r1 := ok_hearingD (L := L) (xs := xs) (h := h) (k := k1) (o := (((1 : Int32) <<< (nI n &&& 31)) - 1) &&& ((cyA M n t).1 ^^^ (-1))) (x := (cyA M n t).1) (q := 2) hc hB hn h8 (by omega)
  rw [s17, hearD_eq h8] at r1
  refine ⟨_, _, r1, ?_⟩
  have r2 := ok_hearingD (L := L) (xs := xs) (h := h) (k := k1) (o := (cyA M n t).1) (x := cyR M n t) (q := 1) hc hB hn h8 (by omega)
  rw [s17] at r2
  refine ⟨_, _, r2, ?_⟩
  rw [hearC_eq h8]
  have r3 := ok_hearingD (L := L) (xs := xs) (h := h) (k := k1) (o := (((1 : Int32) <<< (nI n &&& 31)) - 1) &&& ((cyA M n t).1 ^^^ (-1))) (x := cyF M n t) (q := 1) hc hB hn h8 (by omega)
  rw [s17, hearD_eq h8] at r3
  refine ⟨_, _, r3, ?_⟩
  have hlo : lotOk (k1 0) := by rw [z0]; exact lotOk_askL hl n
  have r4 := ok_settles (L := L) (xs := xs) (h := h) (D := D) (k := k1) (C := cyF M n t) (an := cyN M n t) hc hB hn h8 ht (cyF_lt h8) hlo
  rw [s17, s9, z0] at r4
  have eS : seO (M.2 7) n t (cyN M n t) (fC (cyF M n t) (cyA M n t).2) (M.2 8) 8 = cyS M n t := (seO_cong (fun s hs => (cyD_fC s hs).symm) 8)
  rw [eS] at r4
  refine ⟨_, _, r4, ?_⟩
  generalize hk2 : fb_put (upd k1 0 (drl (cyF M n t) (cyA M n t).2 n)) (cyS M n t).1 9 8 = k2
  have t17 : seg k2 17 = M.2 7 := by rw [← hk2, seg_put_ne (by omega), seg_ne _ _ _ _ (by omega), s17]
  have t1 : seg k2 1 = M.2 6 := by rw [← hk2, seg_put_ne (by omega), seg_ne _ _ _ _ (by omega), s1]
  have r5 := ok_shares (L := L) (xs := xs) (h := h) (D := (D.1, va_up D.2 18 (drL (cyF M n t) 0 (cyA M n t).2 (D.2 18) n).1)) (k := k2) (B := B) (a := (cyA M n t).1) (se := (cyS M n t).2) hc hB hn h8 (by rw [t17]; exact hk) (by rw [t1]; exact hsh)
  rw [t17, t1] at r5
  refine ⟨_, r5, ?_⟩
  simp only [cD hc, gD_0 hc, gD_1 hc, gD_2 hc, gD_3 hc, gD_4 hc, gD_5 hc, gD_6 hc, gD_7 hc, gD_8 hc, gD_9 hc, gD_10 hc, gD_11 hc, gD_12 hc, gD_13 hc, gD_14 hc, gD_15 hc, gD_16 hc, gD_17 hc, gD_18 hc, gD_19 hc, pD_1 hc, pD_2 hc, pD_3 hc, pD_5 hc, pD_8 hc, pD_11 hc, pD_12 hc, pD_13 hc, pD_14 hc, pD_15 hc, am_b_some, ix26, ix27, ix28, ix29, ix25, ix30, sB hc hB (show 25 < 31 by omega), sB hc hB (show 26 < 31 by omega), sB hc hB (show 27 < 31 by omega), sB hc hB (show 28 < 31 by omega), sB hc hB (show 29 < 31 by omega), sB hc hB (show 30 < 31 by omega)]
  have eD : (cyD M n t).2 = drl (cyF M n t) (cyA M n t).2 n := drL_2 _ _ _ _ _
  rw [← hk2, ← hk1, upd_upd, ← eD]
  (first | exact ⟨rfl, rfl⟩ | exact ⟨rfl, trivial⟩ | exact ⟨trivial, rfl⟩ | exact ⟨trivial, trivial⟩ | exact trivial)
end D4
