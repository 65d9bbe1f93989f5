/-! THE REFERENCE'S ROW: a block of 31 places at B -/
def dB (D : sg_S) (B : Nat) (k : Nat → Int32) : sg_S := (D.1, va_up D.2 0 (fb_put (D.2 0) k B 31))
theorem dB_1 (D : sg_S) (B : Nat) (k : Nat → Int32) : (dB D B k).1 = D.1 := rfl
theorem dB_0 (D : sg_S) (B : Nat) (k : Nat → Int32) : (dB D B k).2 0 = fb_put (D.2 0) k B 31 := rfl
theorem dB_at (D : sg_S) (B : Nat) (k : Nat → Int32) {j : Nat} (hj : j < 31) : (dB D B k).2 0 (B + j) = k j := by
  rw [dB_0, fb_put_in (by omega) (by omega)]
  congr 1
  omega
theorem dB_id (D : sg_S) (B : Nat) : dB D B (fun j => D.2 0 (B + j)) = D := by
  refine Prod.ext rfl ?_
  show va_up D.2 0 (fb_put (D.2 0) (fun j => D.2 0 (B + j)) B 31) = D.2
  have e : fb_put (D.2 0) (fun j => D.2 0 (B + j)) B 31 = D.2 0 := by
    funext i
    unfold fb_put
    by_cases q : B ≤ i ∧ i < B + 31
    · rw [if_pos q]
      show D.2 0 (B + (i - B)) = D.2 0 i
      rw [show B + (i - B) = i by omega]
    · rw [if_neg q]
  rw [e, vu_id]
theorem fb_upd (f g : Nat → Int32) {a n j : Nat} (hj : j < n) (x : Int32) : upd (fb_put f g a n) (a + j) x = fb_put f (upd g j x) a n := by
  funext i
  unfold upd fb_put
  by_cases e : i = a + j
  · subst e
    simp [hj]
  · by_cases q : a ≤ i ∧ i < a + n
    · have e2 : ¬ i - a = j := by omega
      simp [e, q, e2]
    · simp [e, q]
theorem dB_upd (D : sg_S) (B : Nat) (k : Nat → Int32) {j : Nat} (hj : j < 31) (x : Int32) : ((dB D B k).1, va_up (dB D B k).2 0 (upd ((dB D B k).2 0) (B + j) x)) = dB D B (upd k j x) := by
  refine Prod.ext rfl ?_
  show va_up (va_up D.2 0 (fb_put (D.2 0) k B 31)) 0 (upd (fb_put (D.2 0) k B 31) (B + j) x) = _
  rw [vu_vu, fb_upd _ _ hj]
  rfl
/-- eight places of the block, nothing behind them -/
def seg (k : Nat → Int32) (a : Nat) : Nat → Int32 := fun v => if v < 8 then k (a + v) else 0
theorem seg_at (k : Nat → Int32) (a : Nat) {v : Nat} (h : v < 8) : seg k a v = k (a + v) := if_pos h
theorem seg_upd (k : Nat → Int32) (a : Nat) {j : Nat} (hj : j < 8) (x : Int32) : seg (upd k (a + j) x) a = upd (seg k a) j x := by
  funext v
  unfold seg upd
  by_cases e : v = j
  · simp [e, hj]
  · simp [e]
theorem seg_ne (k : Nat → Int32) (a c : Nat) (x : Int32) (h : c < a ∨ a + 8 ≤ c) : seg (upd k c x) a = seg k a := by
  funext v
  unfold seg upd
  by_cases q : v < 8
  · rw [if_pos q, if_pos q, if_neg (by omega)]
  · rw [if_neg q, if_neg q]
theorem ix0 (B : Nat) : nI B + 0 = nI (B + 0) := nI_add B 0
theorem ix1 (B v : Nat) : (nI B + 1) + nI v = nI (B + (1 + v)) := by show nI B + nI 1 + nI v = _; rw [nI_add, nI_add, Nat.add_assoc]
theorem ix9 (B v : Nat) : (nI B + 9) + nI v = nI (B + (9 + v)) := by show nI B + nI 9 + nI v = _; rw [nI_add, nI_add, Nat.add_assoc]
theorem ix17 (B v : Nat) : (nI B + 17) + nI v = nI (B + (17 + v)) := by show nI B + nI 17 + nI v = _; rw [nI_add, nI_add, Nat.add_assoc]
theorem ix25 (B : Nat) : nI B + 25 = nI (B + 25) := nI_add B 25
theorem ix30 (B : Nat) : nI B + 30 = nI (B + 30) := nI_add B 30
theorem ix26 (B : Nat) : nI (B + 25) + 1 = nI (B + 26) := nI_add (B + 25) 1
theorem ix27 (B : Nat) : nI (B + 25) + 2 = nI (B + 27) := nI_add (B + 25) 2
theorem ix28 (B : Nat) : nI (B + 25) + 3 = nI (B + 28) := nI_add (B + 25) 3
theorem ix29 (B : Nat) : nI (B + 25) + 4 = nI (B + 29) := nI_add (B + 25) 4
theorem or_0 (x : Int32) : x ||| 0 = x := by
  apply b_ext
  intro i _
  rw [b_or, b_0, Bool.or_false]
theorem bs_0 {P : Nat → Bool} {n : Nat} (h : P n = false) : bs P n ||| 0 = bs P (n + 1) := by rw [or_0, bs_succ, if_neg (by simp [h])]
theorem bs_1 {P : Nat → Bool} {n : Nat} (h : P n = true) : bs P n ||| ((1 : Int32) <<< (nI n &&& 31)) = bs P (n + 1) := by rw [bs_succ, if_pos h]
section D1
variable {L : Nat} {xs : Nat → Int32} {h : am_H} {c B n v s : Nat} {D : sg_S} {k : Nat → Int32}
theorem lB (hc : c + 10 < h.1) (hB : B + 31 ≤ 372) {j : Nat} (hj : j < 31) : am_lI (ob sgD h c (dB D B k)) .int (c + 1) (nI (B + j)) = some (k j) := by
  rw [lD_0 hc (by omega), dB_at D B k hj]
theorem sB (hc : c + 10 < h.1) (hB : B + 31 ≤ 372) {j : Nat} (hj : j < 31) {x : Int32} : am_sI (ob sgD h c (dB D B k)) .int (c + 1) (nI (B + j)) x = some (ob sgD h c (dB D B (upd k j x))) := by
  rw [sD_0 hc (by omega), dB_upd D B k hj]
theorem lS (hc : c + 10 < h.1) (hB : B + 31 ≤ 372) {a j : Nat} (ha : a + 8 ≤ 31) (hj : j < 8) : am_lI (ob sgD h c (dB D B k)) .int (c + 1) (nI (B + (a + j))) = some (seg k a j) := by
  rw [lB hc hB (by omega), seg_at k a hj]
theorem sS (hc : c + 10 < h.1) (hB : B + 31 ≤ 372) {a j : Nat} (ha : a + 8 ≤ 31) (hj : j < 8) {x : Int32} : am_sI (ob sgD h c (dB D B k)) .int (c + 1) (nI (B + (a + j))) x = some (ob sgD h c (dB D B (upd k (a + j) x))) := sB hc hB (by omega)
theorem lB4 (hc : c + 10 < h.1) {j : Nat} (hj : j < 8) : am_lI (ob sgD h c (dB D B k)) .int (c + 2) (nI j) = some (D.2 4 j) := lD_4 hc hj
theorem lB18 (hc : c + 10 < h.1) {j : Nat} (hj : j < 8) : am_lI (ob sgD h c (dB D B k)) .int (c + 9) (nI j) = some (D.2 18 j) := lD_18 hc hj
theorem dB_18 (D : sg_S) (B : Nat) (k f : Nat → Int32) : ((dB D B k).1, va_up (dB D B k).2 18 f) = dB (D.1, va_up D.2 18 f) B k := by
  refine Prod.ext rfl ?_
  show va_up (va_up D.2 0 _) 18 f = va_up (va_up D.2 18 f) 0 _
  funext i
  unfold va_up
  by_cases e : i = 18
  · subst e; rfl
  · by_cases e2 : i = 0
    · subst e2; rfl
    · simp [e, e2]
theorem sB18 (hc : c + 10 < h.1) {j : Nat} (hj : j < 8) {x : Int32} : am_sI (ob sgD h c (dB D B k)) .int (c + 9) (nI j) x = some (ob sgD h c (dB (D.1, va_up D.2 18 (upd (D.2 18) j x)) B k)) := by
  rw [sD_18 hc hj, dB_18]
  rfl
theorem ok_nearD (hc : c + 10 < h.1) (hB : B + 31 ≤ 372) (hn : D.1 1 = nI n) (h8 : n ≤ 8) (hv : v < 8) : am_ok L xs m_X5_near [.ref c, .int (nI B), .int (nI v)] (ob sgD h c (dB D B k)) (some (near (seg k 17) n v)) (ob sgD h c (dB D B k)) := by
  refine en_X5_near (cD hc) rfl rfl (ch_X5_near_0 ?_)
  simp only [cD hc, gD_0 hc, gD_1 hc, gD_2 hc, gD_3 hc, gD_4 hc, gD_5 hc, gD_6 hc, gD_7 hc, gD_8 hc, gD_9 hc, gD_10 hc, gD_11 hc, gD_12 hc, gD_13 hc, gD_14 hc, gD_15 hc, gD_16 hc, gD_17 hc, gD_18 hc, gD_19 hc, pD_1 hc, pD_2 hc, pD_3 hc, pD_5 hc, pD_8 hc, pD_11 hc, pD_12 hc, pD_13 hc, pD_14 hc, pD_15 hc, dB_1, ix17, lS hc hB (show 17 + 8 ≤ 31 by omega) (show v < 8 by omega), am_b_some]
  have key := up_to (P := fun i => am_wa L xs m_X5_near (ob sgD h c (dB D B k)) (some (near (seg k 17) n v)) (ob sgD h c (dB D B k)) 18 [.ref c, .int (nI B), .int (nI v), .int (seg k 17 v), .int (nearL (seg k 17) v i), .int (nI i)] [] (ob sgD h c (dB D B k))) n ?_ ?_ 0 (by omega)
  · exact key
  · refine ch_X5_near_18 ?_
    simp only [cD hc, gD_0 hc, gD_1 hc, gD_2 hc, gD_3 hc, gD_4 hc, gD_5 hc, gD_6 hc, gD_7 hc, gD_8 hc, gD_9 hc, gD_10 hc, gD_11 hc, gD_12 hc, gD_13 hc, gD_14 hc, gD_15 hc, gD_16 hc, gD_17 hc, gD_18 hc, gD_19 hc, pD_1 hc, pD_2 hc, pD_3 hc, pD_5 hc, pD_8 hc, pD_11 hc, pD_12 hc, pD_13 hc, pD_14 hc, pD_15 hc, dB_1, am_b_some, hn]
    rw [if_neg (nI_irr n)]
    (first | exact ⟨fit_i _, rfl, rfl⟩ | exact ⟨fit_i _, rfl, trivial⟩ | exact ⟨fit_i _, trivial, rfl⟩ | exact ⟨fit_i _, trivial, trivial⟩)
  · intro i hi ih
    refine ch_X5_near_18 ?_
    simp only [cD hc, gD_0 hc, gD_1 hc, gD_2 hc, gD_3 hc, gD_4 hc, gD_5 hc, gD_6 hc, gD_7 hc, gD_8 hc, gD_9 hc, gD_10 hc, gD_11 hc, gD_12 hc, gD_13 hc, gD_14 hc, gD_15 hc, gD_16 hc, gD_17 hc, gD_18 hc, gD_19 hc, pD_1 hc, pD_2 hc, pD_3 hc, pD_5 hc, pD_8 hc, pD_11 hc, pD_12 hc, pD_13 hc, pD_14 hc, pD_15 hc, dB_1, am_b_some, hn]
    rw [if_pos (nI_lt hi (by omega))]
    refine ⟨_, _, ok_hasD (by omega), br2 (fun c => ?_) (fun c => ?_)⟩
    · rw [bz_ne] at c
      simp only [nearL, c] at ih
      rw [← nI_succ, or_0]
      exact ih
    · rw [bz_ne] at c
      simp only [cD hc, gD_0 hc, gD_1 hc, gD_2 hc, gD_3 hc, gD_4 hc, gD_5 hc, gD_6 hc, gD_7 hc, gD_8 hc, gD_9 hc, gD_10 hc, gD_11 hc, gD_12 hc, gD_13 hc, gD_14 hc, gD_15 hc, gD_16 hc, gD_17 hc, gD_18 hc, gD_19 hc, pD_1 hc, pD_2 hc, pD_3 hc, pD_5 hc, pD_8 hc, pD_11 hc, pD_12 hc, pD_13 hc, pD_14 hc, pD_15 hc, dB_1, ix17, lS hc hB (show 17 + 8 ≤ 31 by omega) (show i < 8 by omega), am_b_some]
      simp only [nearL, show bt (seg k 17 v) i = true by simpa using c, if_true] at ih
      rw [← nI_succ]
      exact ih
theorem ok_holdersD (hc : c + 10 < h.1) (hB : B + 31 ≤ 372) (hn : D.1 1 = nI n) (h8 : n ≤ 8) (hs : s < 32) : am_ok L xs m_X5_holders [.ref c, .int (nI B), .int (nI s)] (ob sgD h c (dB D B k)) (some (holders (seg k 9) n s)) (ob sgD h c (dB D B k)) := by
  refine en_X5_holders (cD hc) rfl rfl (ch_X5_holders_0 ?_)
  have key := up_to (P := fun i => am_wa L xs m_X5_holders (ob sgD h c (dB D B k)) (some (holders (seg k 9) n s)) (ob sgD h c (dB D B k)) 5 [.ref c, .int (nI B), .int (nI s), .int (bs (fun v => bt (seg k 9 v) s) i), .int (nI i)] [] (ob sgD h c (dB D B k))) n ?_ ?_ 0 (by omega)
  · exact key
  · refine ch_X5_holders_5 ?_
    simp only [cD hc, gD_0 hc, gD_1 hc, gD_2 hc, gD_3 hc, gD_4 hc, gD_5 hc, gD_6 hc, gD_7 hc, gD_8 hc, gD_9 hc, gD_10 hc, gD_11 hc, gD_12 hc, gD_13 hc, gD_14 hc, gD_15 hc, gD_16 hc, gD_17 hc, gD_18 hc, gD_19 hc, pD_1 hc, pD_2 hc, pD_3 hc, pD_5 hc, pD_8 hc, pD_11 hc, pD_12 hc, pD_13 hc, pD_14 hc, pD_15 hc, dB_1, am_b_some, hn]
    rw [if_neg (nI_irr n)]
    (first | exact ⟨fit_i _, rfl, rfl⟩ | exact ⟨fit_i _, rfl, trivial⟩ | exact ⟨fit_i _, trivial, rfl⟩ | exact ⟨fit_i _, trivial, trivial⟩)
  · intro i hi ih
    refine ch_X5_holders_5 ?_
    simp only [cD hc, gD_0 hc, gD_1 hc, gD_2 hc, gD_3 hc, gD_4 hc, gD_5 hc, gD_6 hc, gD_7 hc, gD_8 hc, gD_9 hc, gD_10 hc, gD_11 hc, gD_12 hc, gD_13 hc, gD_14 hc, gD_15 hc, gD_16 hc, gD_17 hc, gD_18 hc, gD_19 hc, pD_1 hc, pD_2 hc, pD_3 hc, pD_5 hc, pD_8 hc, pD_11 hc, pD_12 hc, pD_13 hc, pD_14 hc, pD_15 hc, dB_1, am_b_some, hn, ix9, lS hc hB (show 9 + 8 ≤ 31 by omega) (show i < 8 by omega)]
    rw [if_pos (nI_lt hi (by omega))]
    refine ⟨_, _, ok_hasD hs, br2 (fun c => ?_) (fun c => ?_)⟩
    · rw [bz_ne] at c
      rw [← nI_succ, bs_0 (by simpa using c)]
      exact ih
    · rw [bz_ne] at c
      rw [← nI_succ, bs_1 (by simpa using c)]
      exact ih
theorem ok_isCovered (hc : c + 10 < h.1) (hB : B + 31 ≤ 372) (hv : v < 8) : am_ok L xs m_X5_isCovered [.ref c, .int (nI B), .int (nI v)] (ob sgD h c (dB D B k)) (some (if cov (D.2 4) (seg k 9) v then 1 else 0)) (ob sgD h c (dB D B k)) := by
  refine en_X5_isCovered (cD hc) rfl rfl (ch_X5_isCovered_0 ?_)
  simp only [cD hc, gD_0 hc, gD_1 hc, gD_2 hc, gD_3 hc, gD_4 hc, gD_5 hc, gD_6 hc, gD_7 hc, gD_8 hc, gD_9 hc, gD_10 hc, gD_11 hc, gD_12 hc, gD_13 hc, gD_14 hc, gD_15 hc, gD_16 hc, gD_17 hc, gD_18 hc, gD_19 hc, pD_1 hc, pD_2 hc, pD_3 hc, pD_5 hc, pD_8 hc, pD_11 hc, pD_12 hc, pD_13 hc, pD_14 hc, pD_15 hc, am_b_some, ix9, lS hc hB (show 9 + 8 ≤ 31 by omega) (show v < 8 by omega)]
  refine ⟨_, _, ok_ones, ?_⟩
  simp only [cD hc, gD_0 hc, gD_1 hc, gD_2 hc, gD_3 hc, gD_4 hc, gD_5 hc, gD_6 hc, gD_7 hc, gD_8 hc, gD_9 hc, gD_10 hc, gD_11 hc, gD_12 hc, gD_13 hc, gD_14 hc, gD_15 hc, gD_16 hc, gD_17 hc, gD_18 hc, gD_19 hc, pD_1 hc, pD_2 hc, pD_3 hc, pD_5 hc, pD_8 hc, pD_11 hc, pD_12 hc, pD_13 hc, pD_14 hc, pD_15 hc, am_b_some, lB4 hc hv]
  refine br2 (fun c => ?_) (fun c => ?_)
  · rw [show cov (D.2 4) (seg k 9) v = false by simp [cov, c]]
    (first | exact ⟨fit_0, rfl, rfl⟩ | exact ⟨fit_0, rfl, trivial⟩ | exact ⟨fit_0, trivial, rfl⟩ | exact ⟨fit_0, trivial, trivial⟩)
  · rw [show cov (D.2 4) (seg k 9) v = true by simp only [cov, c]; decide]
    (first | exact ⟨fit_1, rfl, rfl⟩ | exact ⟨fit_1, rfl, trivial⟩ | exact ⟨fit_1, trivial, rfl⟩ | exact ⟨fit_1, trivial, trivial⟩)
theorem ok_coveredD (hc : c + 10 < h.1) (hB : B + 31 ≤ 372) (hn : D.1 1 = nI n) (h8 : n ≤ 8) : am_ok L xs m_X5_covered [.ref c, .int (nI B)] (ob sgD h c (dB D B k)) (some (covered (D.2 4) (seg k 9) n)) (ob sgD h c (dB D B k)) := by
  refine en_X5_covered (cD hc) rfl rfl (ch_X5_covered_0 ?_)
  have key := up_to (P := fun i => am_wa L xs m_X5_covered (ob sgD h c (dB D B k)) (some (covered (D.2 4) (seg k 9) n)) (ob sgD h c (dB D B k)) 4 [.ref c, .int (nI B), .int (bs (cov (D.2 4) (seg k 9)) i), .int (nI i)] [] (ob sgD h c (dB D B k))) n ?_ ?_ 0 (by omega)
  · exact key
  · refine ch_X5_covered_4 ?_
    simp only [cD hc, gD_0 hc, gD_1 hc, gD_2 hc, gD_3 hc, gD_4 hc, gD_5 hc, gD_6 hc, gD_7 hc, gD_8 hc, gD_9 hc, gD_10 hc, gD_11 hc, gD_12 hc, gD_13 hc, gD_14 hc, gD_15 hc, gD_16 hc, gD_17 hc, gD_18 hc, gD_19 hc, pD_1 hc, pD_2 hc, pD_3 hc, pD_5 hc, pD_8 hc, pD_11 hc, pD_12 hc, pD_13 hc, pD_14 hc, pD_15 hc, dB_1, am_b_some, hn]
    rw [if_neg (nI_irr n)]
    (first | exact ⟨fit_i _, rfl, rfl⟩ | exact ⟨fit_i _, rfl, trivial⟩ | exact ⟨fit_i _, trivial, rfl⟩ | exact ⟨fit_i _, trivial, trivial⟩)
  · intro i hi ih
    refine ch_X5_covered_4 ?_
    simp only [cD hc, gD_0 hc, gD_1 hc, gD_2 hc, gD_3 hc, gD_4 hc, gD_5 hc, gD_6 hc, gD_7 hc, gD_8 hc, gD_9 hc, gD_10 hc, gD_11 hc, gD_12 hc, gD_13 hc, gD_14 hc, gD_15 hc, gD_16 hc, gD_17 hc, gD_18 hc, gD_19 hc, pD_1 hc, pD_2 hc, pD_3 hc, pD_5 hc, pD_8 hc, pD_11 hc, pD_12 hc, pD_13 hc, pD_14 hc, pD_15 hc, dB_1, am_b_some, hn]
    rw [if_pos (nI_lt hi (by omega))]
    refine ⟨_, _, ok_isCovered hc hB (by omega), br2 (fun c => ?_) (fun c => ?_)⟩
    · rw [bz_ne] at c
      rw [← nI_succ, bs_0 (by simpa using c)]
      exact ih
    · rw [bz_ne] at c
      rw [← nI_succ, bs_1 (by simpa using c)]
      exact ih
theorem ok_contendersD (hc : c + 10 < h.1) (hB : B + 31 ≤ 372) (hn : D.1 1 = nI n) (h8 : n ≤ 8) (hs : s < 32) : am_ok L xs m_X5_contenders [.ref c, .int (nI B), .int (nI s)] (ob sgD h c (dB D B k)) (some (contF (seg k 17) (D.2 4) (seg k 9) n s)) (ob sgD h c (dB D B k)) := by
  refine en_X5_contenders (cD hc) rfl rfl (ch_X5_contenders_0 ⟨_, _, ok_holdersD hc hB hn h8 hs, ?_⟩)
  have key := up_to (P := fun i => am_wa L xs m_X5_contenders (ob sgD h c (dB D B k)) (some (contF (seg k 17) (D.2 4) (seg k 9) n s)) (ob sgD h c (dB D B k)) 13 [.ref c, .int (nI B), .null, .int (holders (seg k 9) n s), .int (bs (fun v => !cov (D.2 4) (seg k 9) v && !bt (holders (seg k 9) n s) v && decide (near (seg k 17) n v &&& holders (seg k 9) n s = 0)) i), .int (nI i)] [] (ob sgD h c (dB D B k))) n ?_ ?_ 0 (by omega)
  · exact key
  · refine ch_X5_contenders_13 ?_
    simp only [cD hc, gD_0 hc, gD_1 hc, gD_2 hc, gD_3 hc, gD_4 hc, gD_5 hc, gD_6 hc, gD_7 hc, gD_8 hc, gD_9 hc, gD_10 hc, gD_11 hc, gD_12 hc, gD_13 hc, gD_14 hc, gD_15 hc, gD_16 hc, gD_17 hc, gD_18 hc, gD_19 hc, pD_1 hc, pD_2 hc, pD_3 hc, pD_5 hc, pD_8 hc, pD_11 hc, pD_12 hc, pD_13 hc, pD_14 hc, pD_15 hc, dB_1, am_b_some, hn]
    rw [if_neg (nI_irr n)]
    (first | exact ⟨fit_i _, rfl, rfl⟩ | exact ⟨fit_i _, rfl, trivial⟩ | exact ⟨fit_i _, trivial, rfl⟩ | exact ⟨fit_i _, trivial, trivial⟩)
  · intro i hi ih
    refine ch_X5_contenders_13 ?_
    simp only [cD hc, gD_0 hc, gD_1 hc, gD_2 hc, gD_3 hc, gD_4 hc, gD_5 hc, gD_6 hc, gD_7 hc, gD_8 hc, gD_9 hc, gD_10 hc, gD_11 hc, gD_12 hc, gD_13 hc, gD_14 hc, gD_15 hc, gD_16 hc, gD_17 hc, gD_18 hc, gD_19 hc, pD_1 hc, pD_2 hc, pD_3 hc, pD_5 hc, pD_8 hc, pD_11 hc, pD_12 hc, pD_13 hc, pD_14 hc, pD_15 hc, dB_1, am_b_some, hn]
    rw [if_pos (nI_lt hi (by omega))]
    refine ⟨_, _, ok_isCovered hc hB (by omega), br2 (fun c1 => ⟨_, _, ok_hasD (by omega), br2 (fun c2 => ⟨_, _, ok_nearD hc hB hn h8 (by omega), br2 (fun c3 => ?_) (fun c3 => ?_)⟩) (fun c2 => ?_)⟩) (fun c1 => ?_)⟩
    · rw [bz_ne] at c1 c2
      rw [← nI_succ, bs_1 (by simp [c1, c2, c3])]
      exact ih
    · rw [bz_ne] at c1 c2
      rw [← nI_succ, bs_0 (by simp [c3])]
      exact ih
    · rw [bz_ne] at c1 c2
      rw [← nI_succ, bs_0 (by simp [c2])]
      exact ih
    · rw [bz_ne] at c1
      rw [← nI_succ, bs_0 (by simp [c1])]
      exact ih
theorem ok_nearToD (hc : c + 10 < h.1) (hB : B + 31 ≤ 372) (hn : D.1 1 = nI n) (h8 : n ≤ 8) {x : Int32} : am_ok L xs m_X5_nearTo [.ref c, .int (nI B), .int x] (ob sgD h c (dB D B k)) (some (nearTo (seg k 17) n x)) (ob sgD h c (dB D B k)) := by
  refine en_X5_nearTo (cD hc) rfl rfl (ch_X5_nearTo_0 ?_)
  have key := up_to (P := fun i => am_wa L xs m_X5_nearTo (ob sgD h c (dB D B k)) (some (nearTo (seg k 17) n x)) (ob sgD h c (dB D B k)) 5 [.ref c, .int (nI B), .int x, .int (bs (fun v => decide (¬ near (seg k 17) n v &&& x = 0)) i), .int (nI i)] [] (ob sgD h c (dB D B k))) n ?_ ?_ 0 (by omega)
  · exact key
  · refine ch_X5_nearTo_5 ?_
    simp only [cD hc, gD_0 hc, gD_1 hc, gD_2 hc, gD_3 hc, gD_4 hc, gD_5 hc, gD_6 hc, gD_7 hc, gD_8 hc, gD_9 hc, gD_10 hc, gD_11 hc, gD_12 hc, gD_13 hc, gD_14 hc, gD_15 hc, gD_16 hc, gD_17 hc, gD_18 hc, gD_19 hc, pD_1 hc, pD_2 hc, pD_3 hc, pD_5 hc, pD_8 hc, pD_11 hc, pD_12 hc, pD_13 hc, pD_14 hc, pD_15 hc, dB_1, am_b_some, hn]
    rw [if_neg (nI_irr n)]
    (first | exact ⟨fit_i _, rfl, rfl⟩ | exact ⟨fit_i _, rfl, trivial⟩ | exact ⟨fit_i _, trivial, rfl⟩ | exact ⟨fit_i _, trivial, trivial⟩)
  · intro i hi ih
    refine ch_X5_nearTo_5 ?_
    simp only [cD hc, gD_0 hc, gD_1 hc, gD_2 hc, gD_3 hc, gD_4 hc, gD_5 hc, gD_6 hc, gD_7 hc, gD_8 hc, gD_9 hc, gD_10 hc, gD_11 hc, gD_12 hc, gD_13 hc, gD_14 hc, gD_15 hc, gD_16 hc, gD_17 hc, gD_18 hc, gD_19 hc, pD_1 hc, pD_2 hc, pD_3 hc, pD_5 hc, pD_8 hc, pD_11 hc, pD_12 hc, pD_13 hc, pD_14 hc, pD_15 hc, dB_1, am_b_some, hn]
    rw [if_pos (nI_lt hi (by omega))]
    refine ⟨_, _, ok_nearD hc hB hn h8 (by omega), br2 (fun c => ?_) (fun c => ?_)⟩
    · rw [← nI_succ, bs_0 (by simp [c])]
      exact ih
    · rw [← nI_succ, bs_1 (by simp [c])]
      exact ih
theorem ok_hearingD (hc : c + 10 < h.1) (hB : B + 31 ≤ 372) (hn : D.1 1 = nI n) (h8 : n ≤ 8) {o x : Int32} {q : Nat} (hq : q < 9) : am_ok L xs m_X5_hearing [.ref c, .int (nI B), .int o, .int x, .int (nI q)] (ob sgD h c (dB D B k)) (some (bs (fun v => bt o v && hears (seg k 17) x q v) n)) (ob sgD h c (dB D B k)) := by
  refine en_X5_hearing (cD hc) rfl rfl (ch_X5_hearing_0 ?_)
  have key := up_to (P := fun i => am_wa L xs m_X5_hearing (ob sgD h c (dB D B k)) (some (bs (fun v => bt o v && hears (seg k 17) x q v) n)) (ob sgD h c (dB D B k)) 6 [.ref c, .int (nI B), .int o, .int x, .int (nI q), .int (bs (fun v => bt o v && hears (seg k 17) x q v) i), .int (nI i)] [] (ob sgD h c (dB D B k))) n ?_ ?_ 0 (by omega)
  · exact key
  · refine ch_X5_hearing_6 ?_
    simp only [cD hc, gD_0 hc, gD_1 hc, gD_2 hc, gD_3 hc, gD_4 hc, gD_5 hc, gD_6 hc, gD_7 hc, gD_8 hc, gD_9 hc, gD_10 hc, gD_11 hc, gD_12 hc, gD_13 hc, gD_14 hc, gD_15 hc, gD_16 hc, gD_17 hc, gD_18 hc, gD_19 hc, pD_1 hc, pD_2 hc, pD_3 hc, pD_5 hc, pD_8 hc, pD_11 hc, pD_12 hc, pD_13 hc, pD_14 hc, pD_15 hc, dB_1, am_b_some, hn]
    rw [if_neg (nI_irr n)]
    (first | exact ⟨fit_i _, rfl, rfl⟩ | exact ⟨fit_i _, rfl, trivial⟩ | exact ⟨fit_i _, trivial, rfl⟩ | exact ⟨fit_i _, trivial, trivial⟩)
  · intro i hi ih
    refine ch_X5_hearing_6 ?_
    simp only [cD hc, gD_0 hc, gD_1 hc, gD_2 hc, gD_3 hc, gD_4 hc, gD_5 hc, gD_6 hc, gD_7 hc, gD_8 hc, gD_9 hc, gD_10 hc, gD_11 hc, gD_12 hc, gD_13 hc, gD_14 hc, gD_15 hc, gD_16 hc, gD_17 hc, gD_18 hc, gD_19 hc, pD_1 hc, pD_2 hc, pD_3 hc, pD_5 hc, pD_8 hc, pD_11 hc, pD_12 hc, pD_13 hc, pD_14 hc, pD_15 hc, dB_1, am_b_some, hn]
    rw [if_pos (nI_lt hi (by omega))]
    refine ⟨_, _, ok_hasD (by omega), br2 (fun c1 => ?_) (fun c1 => ?_)⟩
    · rw [bz_ne] at c1
      rw [← nI_succ, bs_0 (by simp [c1])]
      exact ih
    · rw [bz_ne] at c1
      simp only [cD hc, gD_0 hc, gD_1 hc, gD_2 hc, gD_3 hc, gD_4 hc, gD_5 hc, gD_6 hc, gD_7 hc, gD_8 hc, gD_9 hc, gD_10 hc, gD_11 hc, gD_12 hc, gD_13 hc, gD_14 hc, gD_15 hc, gD_16 hc, gD_17 hc, gD_18 hc, gD_19 hc, pD_1 hc, pD_2 hc, pD_3 hc, pD_5 hc, pD_8 hc, pD_11 hc, pD_12 hc, pD_13 hc, pD_14 hc, pD_15 hc, am_b_some, ix17, lS hc hB (show 17 + 8 ≤ 31 by omega) (show i < 8 by omega)]
      refine ⟨_, _, ok_ones, br2 (fun c => ?_) (fun c => ?_)⟩
      · have hc' : ¬ q ≤ pop (seg k 17 i &&& x) := fun z => nI_nlt (a := pop (seg k 17 i &&& x)) (b := q) z (by have := pop_le (seg k 17 i &&& x); omega) c
        rw [← nI_succ, bs_0 (by simp [hears, hc'])]
        exact ih
      · have hc' : q ≤ pop (seg k 17 i &&& x) := by
          rcases Nat.lt_or_ge (pop (seg k 17 i &&& x)) q with z | z
          · exact absurd (nI_lt z (by omega)) c
          · exact z
        rw [← nI_succ, bs_1 (by simp only [hears, hc', show bt o i = true by simpa using c1]; decide)]
        exact ih
theorem ok_lot (hc : c + 10 < h.1) (hB : B + 31 ≤ 372) {q : Int32} (hq : ¬ q = 0) : am_ok L xs m_X5_lot [.ref c, .int (nI B), .int q] (ob sgD h c (dB D B k)) (some (lotV (lotS (k 0)) q)) (ob sgD h c (dB D B (upd k 0 (lotS (k 0))))) := by
  refine en_X5_lot (cD hc) rfl rfl (ch_X5_lot_0 ?_)
  simp only [cD hc, gD_0 hc, gD_1 hc, gD_2 hc, gD_3 hc, gD_4 hc, gD_5 hc, gD_6 hc, gD_7 hc, gD_8 hc, gD_9 hc, gD_10 hc, gD_11 hc, gD_12 hc, gD_13 hc, gD_14 hc, gD_15 hc, gD_16 hc, gD_17 hc, gD_18 hc, gD_19 hc, pD_1 hc, pD_2 hc, pD_3 hc, pD_5 hc, pD_8 hc, pD_11 hc, pD_12 hc, pD_13 hc, pD_14 hc, pD_15 hc, am_b_some, ix0, lB hc hB (show 0 < 31 by omega), sB hc hB (show 0 < 31 by omega), upd_at]
  exact ⟨by decide +kernel, by decide +kernel, hq, fit_i _, rfl, rfl⟩
end D1
