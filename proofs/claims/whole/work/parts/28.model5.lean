/-! THE REFERENCE: rows copied, the past, links, what is counted -/
theorem nI_sub0 (x : Int32) : x - 0 = x := by
  apply Int32.toBitVec_inj.1
  simp
section D5
variable {L : Nat} {xs : Nat → Int32} {h : am_H} {c B n m v s t : Nat} {D : sg_S} {k : Nat → Int32}
theorem ok_copyRow (hc : c + 10 < h.1) {A : Nat} (hA : A + 31 ≤ 372) (hB : B + 31 ≤ 372) (hd : A + 31 ≤ B ∨ B + 31 ≤ A) : am_ok L xs m_X5_copyRow [.ref c, .int (nI A), .int (nI B)] (ob sgD h c D) none (ob sgD h c (dB D B (fun j => D.2 0 (A + j)))) := by
  refine en_X5_copyRow (cD hc) rfl rfl (ch_X5_copyRow_0 ?_)
  have key := up_to (P := fun i => am_wa L xs m_X5_copyRow (ob sgD h c D) none (ob sgD h c (dB D B (fun j => D.2 0 (A + j)))) 2 [.ref c, .int (nI A), .int (nI B), .int (nI i)] [] (ob sgD h c (D.1, va_up D.2 0 (fb_put (D.2 0) (fun j => D.2 0 (A + j)) B i)))) 31 ?_ ?_ 0 (by omega)
  · rw [fb_put_0, vu_id] at key
    exact key
  · refine ch_X5_copyRow_2 ?_
    rw [if_neg (by decide +kernel)]
    exact ⟨rfl, rfl⟩
  · intro i hi ih
    refine ch_X5_copyRow_2 ?_
    rw [if_pos (show nI i < 31 from nI_lt (b := 31) hi (by omega))]
    simp only [cD hc, gD_0 hc, gD_1 hc, gD_2 hc, gD_3 hc, gD_4 hc, gD_5 hc, gD_6 hc, gD_7 hc, gD_8 hc, gD_9 hc, gD_10 hc, gD_11 hc, gD_12 hc, gD_13 hc, gD_14 hc, gD_15 hc, gD_16 hc, gD_17 hc, gD_18 hc, gD_19 hc, pD_1 hc, pD_2 hc, pD_3 hc, pD_5 hc, pD_8 hc, pD_11 hc, pD_12 hc, pD_13 hc, pD_14 hc, pD_15 hc, am_b_some, nI_add, lD_0 hc (show A + i < 372 by omega), sD_0 hc (show B + i < 372 by omega), vu_at, vu_vu]
    rw [fb_put_out (by omega), fb_put_succ (D.2 0) (fun j => D.2 0 (A + j)) B i, ← nI_succ]
    exact ih
def pastD (D : sg_S) (u : Nat) : sg_S := if u < 8 then dB (upd D.1 5 (nI (u + 1)), D.2) (31 + 31 * u) (fun j => D.2 0 j) else dB (upd D.1 5 (nI 8), va_up D.2 0 (fb_put (D.2 0) (fun j => D.2 0 (62 + j)) 31 217)) 248 (fun j => D.2 0 j)
theorem pfD5 (hc : c + 10 < h.1) {x : Int32} {S : sg_S} {B : Nat} {k : Nat → Int32} : am_pF (ob sgD h c (dB S B k)) c 5 5 (.int x) = some (ob sgD h c (dB (upd S.1 5 x, S.2) B k)) := pD_5 hc
theorem ok_keepPast (hc : c + 10 < h.1) {u : Nat} (hu : D.1 5 = nI u) (h8 : u ≤ 8) : am_ok L xs m_X5_keepPast [.ref c] (ob sgD h c D) none (ob sgD h c (pastD D u)) := by
  refine en_X5_keepPast (cD hc) (by unfold pastD; split <;> rfl) (by unfold pastD; split <;> rfl) (ch_X5_keepPast_0 ?_)
  have a31 : ∀ x, (31 : Int32) + nI x = nI (31 + x) := fun x => nI_add 31 x
  have a62 : ∀ x, (62 : Int32) + nI x = nI (62 + x) := fun x => nI_add 62 x
  have m31 : ∀ x, (31 : Int32) * nI x = nI (31 * x) := fun x => pk_mul 31 x
  rcases Nat.lt_or_ge u 8 with hlt | hge
  · have hne : ¬ nI u = 8 := fun e => by
      have := (nI_eq (a := u) (b := 8) (by omega) (by omega)).mp e
      omega
    refine ch_X5_keepPast_2 ?_
    rw [if_pos (by decide +kernel)]
    simp only [cD hc, gD_0 hc, gD_1 hc, gD_2 hc, gD_3 hc, gD_4 hc, gD_5 hc, gD_6 hc, gD_7 hc, gD_8 hc, gD_9 hc, gD_10 hc, gD_11 hc, gD_12 hc, gD_13 hc, gD_14 hc, gD_15 hc, gD_16 hc, gD_17 hc, gD_18 hc, gD_19 hc, pD_1 hc, pD_2 hc, pD_3 hc, pD_5 hc, pD_8 hc, pD_11 hc, pD_12 hc, pD_13 hc, pD_14 hc, pD_15 hc, am_b_some, hu]
    rw [if_neg hne]
    simp only [cD hc, gD_0 hc, gD_1 hc, gD_2 hc, gD_3 hc, gD_4 hc, gD_5 hc, gD_6 hc, gD_7 hc, gD_8 hc, gD_9 hc, gD_10 hc, gD_11 hc, gD_12 hc, gD_13 hc, gD_14 hc, gD_15 hc, gD_16 hc, gD_17 hc, gD_18 hc, gD_19 hc, pD_1 hc, pD_2 hc, pD_3 hc, pD_5 hc, pD_8 hc, pD_11 hc, pD_12 hc, pD_13 hc, pD_14 hc, pD_15 hc, am_b_some, hu, if_neg hne, nI_sub0, upd_at, m31, a31]
    have call := ok_copyRow (L := L) (xs := xs) (h := h) (c := c) (D := (upd D.1 5 (nI u), D.2)) (A := 0) (B := 31 + 31 * u) hc (by omega) (by omega) (by omega)
    simp only [Nat.zero_add] at call
    refine ⟨_, call, ?_⟩
    simp only [cD hc, gD_0 hc, gD_1 hc, gD_2 hc, gD_3 hc, gD_4 hc, gD_5 hc, gD_6 hc, gD_7 hc, gD_8 hc, gD_9 hc, gD_10 hc, gD_11 hc, gD_12 hc, gD_13 hc, gD_14 hc, gD_15 hc, gD_16 hc, gD_17 hc, gD_18 hc, gD_19 hc, pD_1 hc, pD_2 hc, pD_3 hc, pD_5 hc, pD_8 hc, pD_11 hc, pD_12 hc, pD_13 hc, pD_14 hc, pD_15 hc, dB_1, am_b_some, upd_at, pfD5 hc, upd_upd]
    refine ⟨trivial, ?_⟩
    unfold pastD
    rw [if_pos hlt, nI_succ]
    rfl
  · have e8 : u = 8 := by omega
    subst e8
    have key := up_to (P := fun i => am_wa L xs m_X5_keepPast (ob sgD h c D) none (ob sgD h c (pastD D 8)) 2 [.ref c, .int (nI i)] [] (ob sgD h c (D.1, va_up D.2 0 (fb_put (D.2 0) (fun j => D.2 0 (62 + j)) 31 i)))) 217 ?_ ?_ 0 (by omega)
    · rw [fb_put_0, vu_id] at key
      exact key
    · refine ch_X5_keepPast_2 ?_
      rw [if_neg (by decide +kernel)]
      simp only [cD hc, gD_0 hc, gD_1 hc, gD_2 hc, gD_3 hc, gD_4 hc, gD_5 hc, gD_6 hc, gD_7 hc, gD_8 hc, gD_9 hc, gD_10 hc, gD_11 hc, gD_12 hc, gD_13 hc, gD_14 hc, gD_15 hc, gD_16 hc, gD_17 hc, gD_18 hc, gD_19 hc, pD_1 hc, pD_2 hc, pD_3 hc, pD_5 hc, pD_8 hc, pD_11 hc, pD_12 hc, pD_13 hc, pD_14 hc, pD_15 hc, am_b_some, hu]
      rw [if_pos (by decide +kernel)]
      have e7 : nI 8 - 1 = nI 7 := by decide +kernel
      have e248 : (31 : Int32) + 31 * nI 7 = nI 248 := by decide +kernel
      simp only [cD hc, gD_0 hc, gD_1 hc, gD_2 hc, gD_3 hc, gD_4 hc, gD_5 hc, gD_6 hc, gD_7 hc, gD_8 hc, gD_9 hc, gD_10 hc, gD_11 hc, gD_12 hc, gD_13 hc, gD_14 hc, gD_15 hc, gD_16 hc, gD_17 hc, gD_18 hc, gD_19 hc, pD_1 hc, pD_2 hc, pD_3 hc, pD_5 hc, pD_8 hc, pD_11 hc, pD_12 hc, pD_13 hc, pD_14 hc, pD_15 hc, am_b_some, e7, upd_at, e248]
      have call := ok_copyRow (L := L) (xs := xs) (h := h) (c := c) (D := (upd D.1 5 (nI 7), va_up D.2 0 (fb_put (D.2 0) (fun j => D.2 0 (62 + j)) 31 217))) (A := 0) (B := 248) hc (by omega) (by omega) (by omega)
      simp only [Nat.zero_add] at call
      refine ⟨_, call, ?_⟩
      simp only [cD hc, gD_0 hc, gD_1 hc, gD_2 hc, gD_3 hc, gD_4 hc, gD_5 hc, gD_6 hc, gD_7 hc, gD_8 hc, gD_9 hc, gD_10 hc, gD_11 hc, gD_12 hc, gD_13 hc, gD_14 hc, gD_15 hc, gD_16 hc, gD_17 hc, gD_18 hc, gD_19 hc, pD_1 hc, pD_2 hc, pD_3 hc, pD_5 hc, pD_8 hc, pD_11 hc, pD_12 hc, pD_13 hc, pD_14 hc, pD_15 hc, dB_1, am_b_some, upd_at, pfD5 hc, upd_upd]
      refine ⟨trivial, ?_⟩
      unfold pastD
      rw [if_neg (by omega)]
      have e8 : nI 7 + 1 = nI 8 := by decide +kernel
      rw [e8]
      show ob sgD h c (dB (upd D.1 5 (nI 8), va_up D.2 0 (fb_put (D.2 0) (fun j => D.2 0 (62 + j)) 31 217)) 248 (fun j => fb_put (D.2 0) (fun j => D.2 0 (62 + j)) 31 217 j)) = _
      have ef : ∀ (S : sg_S) (k k' : Nat → Int32), (∀ j, j < 31 → k j = k' j) → dB S 248 k = dB S 248 k' := by
        intro S k k' hkk
        unfold dB
        rw [fb_put_cong (fun _ _ => rfl) hkk]
      rw [ef _ _ (fun j => D.2 0 j) (fun j hj => fb_put_out (by omega))]
    · intro i hi ih
      refine ch_X5_keepPast_2 ?_
      rw [if_pos (show nI i < 217 from nI_lt (b := 217) hi (by omega))]
      simp only [cD hc, gD_0 hc, gD_1 hc, gD_2 hc, gD_3 hc, gD_4 hc, gD_5 hc, gD_6 hc, gD_7 hc, gD_8 hc, gD_9 hc, gD_10 hc, gD_11 hc, gD_12 hc, gD_13 hc, gD_14 hc, gD_15 hc, gD_16 hc, gD_17 hc, gD_18 hc, gD_19 hc, pD_1 hc, pD_2 hc, pD_3 hc, pD_5 hc, pD_8 hc, pD_11 hc, pD_12 hc, pD_13 hc, pD_14 hc, pD_15 hc, am_b_some, hu]
      rw [if_pos (by decide +kernel)]
      simp only [cD hc, gD_0 hc, gD_1 hc, gD_2 hc, gD_3 hc, gD_4 hc, gD_5 hc, gD_6 hc, gD_7 hc, gD_8 hc, gD_9 hc, gD_10 hc, gD_11 hc, gD_12 hc, gD_13 hc, gD_14 hc, gD_15 hc, gD_16 hc, gD_17 hc, gD_18 hc, gD_19 hc, pD_1 hc, pD_2 hc, pD_3 hc, pD_5 hc, pD_8 hc, pD_11 hc, pD_12 hc, pD_13 hc, pD_14 hc, pD_15 hc, am_b_some, a31, a62, lD_0 hc (show 62 + i < 372 by omega), sD_0 hc (show 31 + i < 372 by omega), vu_at, vu_vu]
      rw [fb_put_out (by omega), fb_put_succ (D.2 0) (fun j => D.2 0 (62 + j)) 31 i, ← nI_succ]
      exact ih
theorem ok_joins (hc : c + 10 < h.1) (hB : B + 31 ≤ 372) {u v : Nat} (hu : u < 8) (hv : v < 8) : am_ok L xs m_X5_joins [.ref c, .int (nI B), .int (nI u), .int (nI v)] (ob sgD h c (dB D B k)) none (ob sgD h c (dB D B (upd (upd k (17 + u) (seg k 17 u ||| (1 : Int32) <<< (nI v &&& 31))) (17 + v) (upd (seg k 17) u (seg k 17 u ||| (1 : Int32) <<< (nI v &&& 31)) v ||| (1 : Int32) <<< (nI u &&& 31))))) := by
  refine en_X5_joins (cD hc) rfl rfl (ch_X5_joins_0 ?_)
  simp only [cD hc, gD_0 hc, gD_1 hc, gD_2 hc, gD_3 hc, gD_4 hc, gD_5 hc, gD_6 hc, gD_7 hc, gD_8 hc, gD_9 hc, gD_10 hc, gD_11 hc, gD_12 hc, gD_13 hc, gD_14 hc, gD_15 hc, gD_16 hc, gD_17 hc, gD_18 hc, gD_19 hc, pD_1 hc, pD_2 hc, pD_3 hc, pD_5 hc, pD_8 hc, pD_11 hc, pD_12 hc, pD_13 hc, pD_14 hc, pD_15 hc, am_b_some, ix17, lS hc hB (show 17 + 8 ≤ 31 by omega) hu, sS hc hB (show 17 + 8 ≤ 31 by omega) hu]
  simp only [cD hc, gD_0 hc, gD_1 hc, gD_2 hc, gD_3 hc, gD_4 hc, gD_5 hc, gD_6 hc, gD_7 hc, gD_8 hc, gD_9 hc, gD_10 hc, gD_11 hc, gD_12 hc, gD_13 hc, gD_14 hc, gD_15 hc, gD_16 hc, gD_17 hc, gD_18 hc, gD_19 hc, pD_1 hc, pD_2 hc, pD_3 hc, pD_5 hc, pD_8 hc, pD_11 hc, pD_12 hc, pD_13 hc, pD_14 hc, pD_15 hc, am_b_some, lS hc hB (show 17 + 8 ≤ 31 by omega) hv, sS hc hB (show 17 + 8 ≤ 31 by omega) hv, seg_upd _ _ hu]
  (first | exact ⟨rfl, rfl⟩ | exact ⟨rfl, trivial⟩ | exact ⟨trivial, rfl⟩ | exact ⟨trivial, trivial⟩ | exact trivial)
theorem ok_links (hc : c + 10 < h.1) (hn : D.1 1 = nI n) (h8 : n ≤ 8) : am_ok L xs m_X5_links [.ref c] (ob sgD h c (dB D 0 k)) (some (nI (linkN (seg k 17) n / 2))) (ob sgD h c (dB D 0 k)) := by
  refine en_X5_links (cD hc) rfl rfl (ch_X5_links_0 ?_)
  have a17 : ∀ x, (17 : Int32) + nI x = nI (0 + (17 + x)) := fun x => by rw [Nat.zero_add]; exact nI_add 17 x
  have key := up_to (P := fun i => am_wa L xs m_X5_links (ob sgD h c (dB D 0 k)) (some (nI (linkN (seg k 17) n / 2))) (ob sgD h c (dB D 0 k)) 4 [.ref c, .int (nI (linkN (seg k 17) i)), .int (nI i)] [] (ob sgD h c (dB D 0 k))) n ?_ ?_ 0 (by omega)
  · exact key
  · refine ch_X5_links_4 ?_
    simp only [cD hc, gD_0 hc, gD_1 hc, gD_2 hc, gD_3 hc, gD_4 hc, gD_5 hc, gD_6 hc, gD_7 hc, gD_8 hc, gD_9 hc, gD_10 hc, gD_11 hc, gD_12 hc, gD_13 hc, gD_14 hc, gD_15 hc, gD_16 hc, gD_17 hc, gD_18 hc, gD_19 hc, pD_1 hc, pD_2 hc, pD_3 hc, pD_5 hc, pD_8 hc, pD_11 hc, pD_12 hc, pD_13 hc, pD_14 hc, pD_15 hc, dB_1, am_b_some, hn]
    rw [if_neg (nI_irr n), nI_half (by have := linkN_le (seg k 17) n; omega)]
    refine ⟨by decide +kernel, ?_⟩
    (first | exact ⟨fit_i _, rfl, rfl⟩ | exact ⟨fit_i _, rfl, trivial⟩ | exact ⟨fit_i _, trivial, rfl⟩ | exact ⟨fit_i _, trivial, trivial⟩)
  · intro i hi ih
    refine ch_X5_links_4 ?_
    simp only [cD hc, gD_0 hc, gD_1 hc, gD_2 hc, gD_3 hc, gD_4 hc, gD_5 hc, gD_6 hc, gD_7 hc, gD_8 hc, gD_9 hc, gD_10 hc, gD_11 hc, gD_12 hc, gD_13 hc, gD_14 hc, gD_15 hc, gD_16 hc, gD_17 hc, gD_18 hc, gD_19 hc, pD_1 hc, pD_2 hc, pD_3 hc, pD_5 hc, pD_8 hc, pD_11 hc, pD_12 hc, pD_13 hc, pD_14 hc, pD_15 hc, dB_1, am_b_some, hn, a17, lS hc (show 0 + 31 ≤ 372 by omega) (show 17 + 8 ≤ 31 by omega) (show i < 8 by omega)]
    rw [if_pos (nI_lt hi (by omega))]
    refine ⟨_, _, ok_ones, ?_⟩
    rw [nI_add, ← nI_succ]
    exact ih
theorem mask_all {P : Nat → Bool} {n : Nat} (h8 : n ≤ 8) : (bs P n = ((1 : Int32) <<< (nI n &&& 31)) - 1) ↔ ∀ v, v < n → P v = true := by
  constructor
  · intro e v hv
    have h1 := bt_bs P (show n ≤ 31 by omega) (show v < 32 by omega)
    rw [e, bt_mask n (by omega) v (by omega), decide_eq_true hv] at h1
    simpa using h1.symm
  · intro hP
    apply b_ext
    intro i hi
    rw [bt_bs P (by omega) hi, bt_mask n (by omega) i hi]
    by_cases q : i < n
    · simp [q, hP i q]
    · simp [q]
theorem ok_isDoneD (hc : c + 10 < h.1) (hB : B + 31 ≤ 372) (hn : D.1 1 = nI n) (h8 : n ≤ 8) : am_ok L xs m_X5_isDone [.ref c, .int (nI B)] (ob sgD h c (dB D B k)) (some (if allC (D.2 4) (seg k 9) n then 1 else 0)) (ob sgD h c (dB D B k)) := by
  refine en_X5_isDone (cD hc) rfl rfl (ch_X5_isDone_0 ⟨_, _, ok_coveredD hc hB hn h8, ?_⟩)
  simp only [cD hc, gD_0 hc, gD_1 hc, gD_2 hc, gD_3 hc, gD_4 hc, gD_5 hc, gD_6 hc, gD_7 hc, gD_8 hc, gD_9 hc, gD_10 hc, gD_11 hc, gD_12 hc, gD_13 hc, gD_14 hc, gD_15 hc, gD_16 hc, gD_17 hc, gD_18 hc, gD_19 hc, pD_1 hc, pD_2 hc, pD_3 hc, pD_5 hc, pD_8 hc, pD_11 hc, pD_12 hc, pD_13 hc, pD_14 hc, pD_15 hc, dB_1, am_b_some, hn, covered]
  refine br2 (fun e => ?_) (fun e => ?_)
  · rw [mask_all h8] at e
    rw [show allC (D.2 4) (seg k 9) n = true by simpa [allC] using e]
    (first | exact ⟨fit_1, rfl, rfl⟩ | exact ⟨fit_1, rfl, trivial⟩ | exact ⟨fit_1, trivial, rfl⟩ | exact ⟨fit_1, trivial, trivial⟩)
  · rw [mask_all h8] at e
    rw [show allC (D.2 4) (seg k 9) n = false by simpa [allC] using e]
    (first | exact ⟨fit_0, rfl, rfl⟩ | exact ⟨fit_0, rfl, trivial⟩ | exact ⟨fit_0, trivial, rfl⟩ | exact ⟨fit_0, trivial, trivial⟩)
def cdG (K H : Nat → Int32) (n s v : Nat) : Nat := if bt (holders H n s) v then pop (near K n v &&& holders H n s) else 0
def cdN (K H : Nat → Int32) (n s : Nat) : Nat := fb_sm (cdG K H n s) n
theorem cdG_le (K H : Nat → Int32) (n s v : Nat) : cdG K H n s v ≤ 8 := by
  unfold cdG
  split
  · exact pop_le _
  · omega
theorem ok_clashesByD (hc : c + 10 < h.1) (hB : B + 31 ≤ 372) (hn : D.1 1 = nI n) (h8 : n ≤ 8) (hs : s < 32) : am_ok L xs m_X5_clashesBy [.ref c, .int (nI B), .int (nI s)] (ob sgD h c (dB D B k)) (some (nI (cdN (seg k 17) (seg k 9) n s / 2))) (ob sgD h c (dB D B k)) := by
  refine en_X5_clashesBy (cD hc) rfl rfl (ch_X5_clashesBy_0 ⟨_, _, ok_holdersD hc hB hn h8 hs, ?_⟩)
  have key := up_to (P := fun i => am_wa L xs m_X5_clashesBy (ob sgD h c (dB D B k)) (some (nI (cdN (seg k 17) (seg k 9) n s / 2))) (ob sgD h c (dB D B k)) 13 [.ref c, .int (nI B), .null, .int (holders (seg k 9) n s), .int (nI (fb_sm (cdG (seg k 17) (seg k 9) n s) i)), .int (nI i)] [] (ob sgD h c (dB D B k))) n ?_ ?_ 0 (by omega)
  · exact key
  · refine ch_X5_clashesBy_13 ?_
    simp only [cD hc, gD_0 hc, gD_1 hc, gD_2 hc, gD_3 hc, gD_4 hc, gD_5 hc, gD_6 hc, gD_7 hc, gD_8 hc, gD_9 hc, gD_10 hc, gD_11 hc, gD_12 hc, gD_13 hc, gD_14 hc, gD_15 hc, gD_16 hc, gD_17 hc, gD_18 hc, gD_19 hc, pD_1 hc, pD_2 hc, pD_3 hc, pD_5 hc, pD_8 hc, pD_11 hc, pD_12 hc, pD_13 hc, pD_14 hc, pD_15 hc, dB_1, am_b_some, hn]
    have hle := fb_sm_le8 (cdG_le (seg k 17) (seg k 9) n s) n
    rw [if_neg (nI_irr n), nI_half (by omega)]
    refine ⟨by decide +kernel, ?_⟩
    (first | exact ⟨fit_i _, rfl, rfl⟩ | exact ⟨fit_i _, rfl, trivial⟩ | exact ⟨fit_i _, trivial, rfl⟩ | exact ⟨fit_i _, trivial, trivial⟩)
  · intro i hi ih
    refine ch_X5_clashesBy_13 ?_
    simp only [cD hc, gD_0 hc, gD_1 hc, gD_2 hc, gD_3 hc, gD_4 hc, gD_5 hc, gD_6 hc, gD_7 hc, gD_8 hc, gD_9 hc, gD_10 hc, gD_11 hc, gD_12 hc, gD_13 hc, gD_14 hc, gD_15 hc, gD_16 hc, gD_17 hc, gD_18 hc, gD_19 hc, pD_1 hc, pD_2 hc, pD_3 hc, pD_5 hc, pD_8 hc, pD_11 hc, pD_12 hc, pD_13 hc, pD_14 hc, pD_15 hc, dB_1, am_b_some, hn]
    rw [if_pos (nI_lt hi (by omega))]
    rw [fb_sm_succ] at ih
    refine ⟨_, _, ok_hasD (by omega), br2 (fun c1 => ?_) (fun c1 => ⟨_, _, ok_nearD hc hB hn h8 (by omega), _, _, ok_ones, ?_⟩)⟩
    · rw [bz_ne] at c1
      rw [show cdG (seg k 17) (seg k 9) n s i = 0 by unfold cdG; rw [c1]; rfl, Nat.add_zero] at ih
      rw [← nI_succ, show nI (fb_sm (cdG (seg k 17) (seg k 9) n s) i) + 0 = nI (fb_sm (cdG (seg k 17) (seg k 9) n s) i) from nI_add _ 0]
      exact ih
    · rw [bz_ne] at c1
      rw [show cdG (seg k 17) (seg k 9) n s i = pop (near (seg k 17) n i &&& holders (seg k 9) n s) by unfold cdG; rw [if_pos (by simpa using c1)]] at ih
      rw [← nI_succ, nI_add]
      exact ih
theorem ok_clashesD (hc : c + 10 < h.1) (hB : B + 31 ≤ 372) (hn : D.1 1 = nI n) (hm : D.1 2 = nI m) (h8 : n ≤ 8) (hm4 : m ≤ 4) : am_ok L xs m_X5_clashes [.ref c, .int (nI B)] (ob sgD h c (dB D B k)) (some (nI (fb_sm (fun s => cdN (seg k 17) (seg k 9) n s / 2) m))) (ob sgD h c (dB D B k)) := by
  refine en_X5_clashes (cD hc) rfl rfl (ch_X5_clashes_0 ?_)
  have key := up_to (P := fun i => am_wa L xs m_X5_clashes (ob sgD h c (dB D B k)) (some (nI (fb_sm (fun s => cdN (seg k 17) (seg k 9) n s / 2) m))) (ob sgD h c (dB D B k)) 4 [.ref c, .int (nI B), .int (nI (fb_sm (fun s => cdN (seg k 17) (seg k 9) n s / 2) i)), .int (nI i)] [] (ob sgD h c (dB D B k))) m ?_ ?_ 0 (by omega)
  · exact key
  · refine ch_X5_clashes_4 ?_
    simp only [cD hc, gD_0 hc, gD_1 hc, gD_2 hc, gD_3 hc, gD_4 hc, gD_5 hc, gD_6 hc, gD_7 hc, gD_8 hc, gD_9 hc, gD_10 hc, gD_11 hc, gD_12 hc, gD_13 hc, gD_14 hc, gD_15 hc, gD_16 hc, gD_17 hc, gD_18 hc, gD_19 hc, pD_1 hc, pD_2 hc, pD_3 hc, pD_5 hc, pD_8 hc, pD_11 hc, pD_12 hc, pD_13 hc, pD_14 hc, pD_15 hc, dB_1, am_b_some, hm]
    rw [if_neg (nI_irr m)]
    (first | exact ⟨fit_i _, rfl, rfl⟩ | exact ⟨fit_i _, rfl, trivial⟩ | exact ⟨fit_i _, trivial, rfl⟩ | exact ⟨fit_i _, trivial, trivial⟩)
  · intro i hi ih
    refine ch_X5_clashes_4 ?_
    simp only [cD hc, gD_0 hc, gD_1 hc, gD_2 hc, gD_3 hc, gD_4 hc, gD_5 hc, gD_6 hc, gD_7 hc, gD_8 hc, gD_9 hc, gD_10 hc, gD_11 hc, gD_12 hc, gD_13 hc, gD_14 hc, gD_15 hc, gD_16 hc, gD_17 hc, gD_18 hc, gD_19 hc, pD_1 hc, pD_2 hc, pD_3 hc, pD_5 hc, pD_8 hc, pD_11 hc, pD_12 hc, pD_13 hc, pD_14 hc, pD_15 hc, dB_1, am_b_some, hm]
    rw [if_pos (nI_lt hi (by omega))]
    refine ⟨_, _, ok_clashesByD hc hB hn h8 (by omega), ?_⟩
    rw [fb_sm_succ] at ih
    rw [← nI_succ, nI_add]
    exact ih
theorem in_eq {n : Nat} (h0 : 1 ≤ n) (hn : n < 2 ^ 30) (x : Int32) : decide (¬ x < 0 ∧ ¬ (nI n - 1) < x) = isIn n x := by
  obtain ⟨p, rfl⟩ : ∃ p, n = p + 1 := ⟨n - 1, by omega⟩
  rw [nI_pred]
  unfold isIn
  refine decide_eq_decide.mpr ?_
  have h1 := nI_toInt (n := p) (by omega)
  have h2 := nI_toInt (n := p + 1) (by omega)
  have z : (0 : Int32).toInt = 0 := by decide +kernel
  rw [Int32.lt_iff_toInt_lt, Int32.lt_iff_toInt_lt, Int32.lt_iff_toInt_lt, h1, h2, z]
  omega
theorem ok_isStationD (hc : c + 10 < h.1) (hn : D.1 1 = nI n) (h0 : 1 ≤ n) (h8 : n ≤ 8) {x : Int32} : am_ok L xs m_X5_isStation [.ref c, .int x] (ob sgD h c D) (some (if isIn n x then 1 else 0)) (ob sgD h c D) := by
  refine en_X5_isStation (cD hc) rfl rfl (ch_X5_isStation_0 ?_)
  simp only [cD hc, gD_0 hc, gD_1 hc, gD_2 hc, gD_3 hc, gD_4 hc, gD_5 hc, gD_6 hc, gD_7 hc, gD_8 hc, gD_9 hc, gD_10 hc, gD_11 hc, gD_12 hc, gD_13 hc, gD_14 hc, gD_15 hc, gD_16 hc, gD_17 hc, gD_18 hc, gD_19 hc, pD_1 hc, pD_2 hc, pD_3 hc, pD_5 hc, pD_8 hc, pD_11 hc, pD_12 hc, pD_13 hc, pD_14 hc, pD_15 hc, am_b_some, hn]
  refine ⟨_, _, ok_in, ?_⟩
  rw [in_eq h0 (by omega)]
  exact ⟨fit_b _, rfl, rfl⟩
theorem ok_isSlotD (hc : c + 10 < h.1) (hn : D.1 2 = nI n) (h0 : 1 ≤ n) (h8 : n ≤ 8) {x : Int32} : am_ok L xs m_X5_isSlot [.ref c, .int x] (ob sgD h c D) (some (if isIn n x then 1 else 0)) (ob sgD h c D) := by
  refine en_X5_isSlot (cD hc) rfl rfl (ch_X5_isSlot_0 ?_)
  simp only [cD hc, gD_0 hc, gD_1 hc, gD_2 hc, gD_3 hc, gD_4 hc, gD_5 hc, gD_6 hc, gD_7 hc, gD_8 hc, gD_9 hc, gD_10 hc, gD_11 hc, gD_12 hc, gD_13 hc, gD_14 hc, gD_15 hc, gD_16 hc, gD_17 hc, gD_18 hc, gD_19 hc, pD_1 hc, pD_2 hc, pD_3 hc, pD_5 hc, pD_8 hc, pD_11 hc, pD_12 hc, pD_13 hc, pD_14 hc, pD_15 hc, am_b_some, hn]
  refine ⟨_, _, ok_in, ?_⟩
  rw [in_eq h0 (by omega)]
  exact ⟨fit_b _, rfl, rfl⟩
theorem ok_areTwo (hc : c + 10 < h.1) (hn : D.1 1 = nI n) (h0 : 1 ≤ n) (h8 : n ≤ 8) {x y : Int32} : am_ok L xs m_X5_areTwo [.ref c, .int x, .int y] (ob sgD h c D) (some (if isTwo n x y then 1 else 0)) (ob sgD h c D) := by
  refine en_X5_areTwo (cD hc) rfl rfl (ch_X5_areTwo_0 ?_)
  refine ⟨_, _, ok_isStationD hc hn h0 h8, br2 (fun c => ?_) (fun c => ⟨_, _, ok_isStationD hc hn h0 h8, br2 (fun d => ?_) (fun d => br2 (fun e => ?_) (fun e => ?_))⟩)⟩
  · rw [bz_ne] at c
    rw [show isTwo n x y = false by unfold isTwo; rw [c]; rfl]; (first | exact ⟨fit_0, rfl, rfl⟩ | exact ⟨fit_0, rfl, trivial⟩ | exact ⟨fit_0, trivial, rfl⟩ | exact ⟨fit_0, trivial, trivial⟩)
  · rw [bz_ne] at d
    rw [show isTwo n x y = false by unfold isTwo; rw [d]; simp]; (first | exact ⟨fit_0, rfl, rfl⟩ | exact ⟨fit_0, rfl, trivial⟩ | exact ⟨fit_0, trivial, rfl⟩ | exact ⟨fit_0, trivial, trivial⟩)
  · rw [show isTwo n x y = false by unfold isTwo; simp [e]]; (first | exact ⟨fit_0, rfl, rfl⟩ | exact ⟨fit_0, rfl, trivial⟩ | exact ⟨fit_0, trivial, rfl⟩ | exact ⟨fit_0, trivial, trivial⟩)
  · rw [bz_ne] at c d
    rw [show isTwo n x y = true by unfold isTwo; simp only [Bool.not_eq_false] at c d; rw [c, d]; simp [e]]; (first | exact ⟨fit_1, rfl, rfl⟩ | exact ⟨fit_1, rfl, trivial⟩ | exact ⟨fit_1, trivial, rfl⟩ | exact ⟨fit_1, trivial, trivial⟩)
end D5
