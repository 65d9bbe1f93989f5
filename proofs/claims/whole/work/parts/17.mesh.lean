/-! MESH: the class's methods that read -/
def nearL (K : Nat → Int32) (v : Nat) : Nat → Int32
  | 0 => K v
  | s + 1 => if bt (K v) s then nearL K v s ||| K s else nearL K v s
def near (K : Nat → Int32) (n v : Nat) : Int32 := nearL K v n &&& (((1 : Int32) <<< (nI v &&& 31)) ^^^ (-1))
def hears (K : Nat → Int32) (x : Int32) (k : Nat) (v : Nat) : Bool := decide (k ≤ pop (K v &&& x))
def hearing (K : Nat → Int32) (n : Nat) (x : Int32) (k : Nat) : Int32 := bs (hears K x k) n
def nearTo (K : Nat → Int32) (n : Nat) (x : Int32) : Int32 := bs (fun v => decide (¬ near K n v &&& x = 0)) n
def holders (H : Nat → Int32) (n s : Nat) : Int32 := bs (fun v => bt (H v) s) n
def cov (Wt H : Nat → Int32) (v : Nat) : Bool := decide (¬ nI (pop (H v)) < Wt v)
def covered (Wt H : Nat → Int32) (n : Nat) : Int32 := bs (cov Wt H) n
theorem nI_irr (n : Nat) : ¬ nI n < nI n := fun z => Int32.lt_irrefl z
section ME
variable {L : Nat} {xs : Nat → Int32} {h : am_H} {b n m v s : Nat} {M : sg_S}
theorem ok_isStation (hb : b + 6 < h.1) (hn : M.1 0 = nI n) {x : Int32} : am_ok L xs m_X0_isStation [.ref b, .int x] (ob sgM h b M) (some (if decide (¬ x < 0 ∧ x < nI n) then 1 else 0)) (ob sgM h b M) := by
  refine en_X0_isStation (cM hb) rfl rfl (ch_X0_isStation_0 ?_)
  simp only [cM hb, gM_0 hb, gM_1 hb, gM_2 hb, gM_3 hb, gM_4 hb, gM_5 hb, gM_6 hb, gM_7 hb, gM_8 hb, gM_9 hb, gM_10 hb, pM_0 hb, pM_1 hb, pM_2 hb, pM_3 hb, pM_4 hb, am_b_some, hn]
  refine br2 (fun c => ?_) (fun c => br2 (fun d => ?_) (fun d => ?_))
  · rw [if_neg (by simp [c])]; (first | exact ⟨fit_0, rfl, rfl⟩ | exact ⟨fit_0, rfl, trivial⟩ | exact ⟨fit_0, trivial, rfl⟩ | exact ⟨fit_0, trivial, trivial⟩)
  · rw [if_pos (by simp [c, d])]; (first | exact ⟨fit_1, rfl, rfl⟩ | exact ⟨fit_1, rfl, trivial⟩ | exact ⟨fit_1, trivial, rfl⟩ | exact ⟨fit_1, trivial, trivial⟩)
  · rw [if_neg (by simp [d])]; (first | exact ⟨fit_0, rfl, rfl⟩ | exact ⟨fit_0, rfl, trivial⟩ | exact ⟨fit_0, trivial, rfl⟩ | exact ⟨fit_0, trivial, trivial⟩)
theorem ok_isSlot (hb : b + 6 < h.1) (hn : M.1 1 = nI n) {x : Int32} : am_ok L xs m_X0_isSlot [.ref b, .int x] (ob sgM h b M) (some (if decide (¬ x < 0 ∧ x < nI n) then 1 else 0)) (ob sgM h b M) := by
  refine en_X0_isSlot (cM hb) rfl rfl (ch_X0_isSlot_0 ?_)
  simp only [cM hb, gM_0 hb, gM_1 hb, gM_2 hb, gM_3 hb, gM_4 hb, gM_5 hb, gM_6 hb, gM_7 hb, gM_8 hb, gM_9 hb, gM_10 hb, pM_0 hb, pM_1 hb, pM_2 hb, pM_3 hb, pM_4 hb, am_b_some, hn]
  refine br2 (fun c => ?_) (fun c => br2 (fun d => ?_) (fun d => ?_))
  · rw [if_neg (by simp [c])]; (first | exact ⟨fit_0, rfl, rfl⟩ | exact ⟨fit_0, rfl, trivial⟩ | exact ⟨fit_0, trivial, rfl⟩ | exact ⟨fit_0, trivial, trivial⟩)
  · rw [if_pos (by simp [c, d])]; (first | exact ⟨fit_1, rfl, rfl⟩ | exact ⟨fit_1, rfl, trivial⟩ | exact ⟨fit_1, trivial, rfl⟩ | exact ⟨fit_1, trivial, trivial⟩)
  · rw [if_neg (by simp [d])]; (first | exact ⟨fit_0, rfl, rfl⟩ | exact ⟨fit_0, rfl, trivial⟩ | exact ⟨fit_0, trivial, rfl⟩ | exact ⟨fit_0, trivial, trivial⟩)
def isIn (n : Nat) (x : Int32) : Bool := decide (¬ x < 0 ∧ x < nI n)
def isTwo (n : Nat) (x y : Int32) : Bool := isIn n x && isIn n y && decide (¬ x = y)
theorem ok_isPair (hb : b + 6 < h.1) (hn : M.1 0 = nI n) {x y : Int32} : am_ok L xs m_X0_isPair [.ref b, .int x, .int y] (ob sgM h b M) (some (if isTwo n x y then 1 else 0)) (ob sgM h b M) := by
  refine en_X0_isPair (cM hb) rfl rfl (ch_X0_isPair_0 ?_)
  refine ⟨_, _, ok_isStation hb hn, br2 (fun c => ?_) (fun c => ⟨_, _, ok_isStation hb hn, br2 (fun d => ?_) (fun d => br2 (fun e => ?_) (fun e => ?_))⟩)⟩
  · rw [bz_ne] at c
    rw [show isTwo n x y = false by unfold isTwo isIn; rw [c]; rfl]; (first | exact ⟨fit_0, rfl, rfl⟩ | exact ⟨fit_0, rfl, trivial⟩ | exact ⟨fit_0, trivial, rfl⟩ | exact ⟨fit_0, trivial, trivial⟩)
  · rw [bz_ne] at d
    rw [show isTwo n x y = false by unfold isTwo isIn; rw [d]; simp]; (first | exact ⟨fit_0, rfl, rfl⟩ | exact ⟨fit_0, rfl, trivial⟩ | exact ⟨fit_0, trivial, rfl⟩ | exact ⟨fit_0, trivial, trivial⟩)
  · rw [show isTwo n x y = false by unfold isTwo isIn; simp [e]]; (first | exact ⟨fit_0, rfl, rfl⟩ | exact ⟨fit_0, rfl, trivial⟩ | exact ⟨fit_0, trivial, rfl⟩ | exact ⟨fit_0, trivial, trivial⟩)
  · rw [bz_ne] at c d
    rw [show isTwo n x y = true by unfold isTwo isIn; simp only [Bool.not_eq_false] at c d; rw [c, d]; simp [e]]; (first | exact ⟨fit_1, rfl, rfl⟩ | exact ⟨fit_1, rfl, trivial⟩ | exact ⟨fit_1, trivial, rfl⟩ | exact ⟨fit_1, trivial, trivial⟩)
theorem ok_near (hb : b + 6 < h.1) (hn : M.1 0 = nI n) (h8 : n ≤ 8) (hv : v < 8) : am_ok L xs m_X0_near [.ref b, .int (nI v)] (ob sgM h b M) (some (near (M.2 7) n v)) (ob sgM h b M) := by
  refine en_X0_near (cM hb) rfl rfl (ch_X0_near_0 ?_)
  simp only [cM hb, gM_0 hb, gM_1 hb, gM_2 hb, gM_3 hb, gM_4 hb, gM_5 hb, gM_6 hb, gM_7 hb, gM_8 hb, gM_9 hb, gM_10 hb, pM_0 hb, pM_1 hb, pM_2 hb, pM_3 hb, pM_4 hb, lM_5 hb hv, sM_5 hb hv, lM_6 hb hv, sM_6 hb hv, lM_7 hb hv, sM_7 hb hv, lM_8 hb hv, sM_8 hb hv, lM_10 hb hv, sM_10 hb hv, am_b_some]
  have key := up_to (P := fun i => am_wa L xs m_X0_near (ob sgM h b M) (some (near (M.2 7) n v)) (ob sgM h b M) 9 [.ref b, .int (nI v), .int (nearL (M.2 7) v i), .int (nI i)] [] (ob sgM h b M)) n ?_ ?_ 0 (by omega)
  · exact key
  · refine ch_X0_near_9 ?_
    simp only [cM hb, gM_0 hb, gM_1 hb, gM_2 hb, gM_3 hb, gM_4 hb, gM_5 hb, gM_6 hb, gM_7 hb, gM_8 hb, gM_9 hb, gM_10 hb, pM_0 hb, pM_1 hb, pM_2 hb, pM_3 hb, pM_4 hb, am_b_some, hn]
    rw [if_neg (nI_irr n)]
    (first | exact ⟨fit_i _, rfl, rfl⟩ | exact ⟨fit_i _, rfl, trivial⟩ | exact ⟨fit_i _, trivial, rfl⟩ | exact ⟨fit_i _, trivial, trivial⟩)
  · intro i hi ih
    have hi8 : i < 8 := by omega
    refine ch_X0_near_9 ?_
    simp only [cM hb, gM_0 hb, gM_1 hb, gM_2 hb, gM_3 hb, gM_4 hb, gM_5 hb, gM_6 hb, gM_7 hb, gM_8 hb, gM_9 hb, gM_10 hb, pM_0 hb, pM_1 hb, pM_2 hb, pM_3 hb, pM_4 hb, lM_5 hb hv, sM_5 hb hv, lM_6 hb hv, sM_6 hb hv, lM_7 hb hv, sM_7 hb hv, lM_8 hb hv, sM_8 hb hv, lM_10 hb hv, sM_10 hb hv, am_b_some, hn]
    rw [if_pos (nI_lt hi (by omega))]
    refine ⟨_, _, ok_has (by omega), br2 (fun c => ?_) (fun c => ?_)⟩
    · rw [bz_ne] at c
      rw [← nI_succ, show nearL (M.2 7) v i = nearL (M.2 7) v (i + 1) by simp [nearL, c]]
      exact ih
    · rw [bz_ne] at c
      simp only [cM hb, gM_0 hb, gM_1 hb, gM_2 hb, gM_3 hb, gM_4 hb, gM_5 hb, gM_6 hb, gM_7 hb, gM_8 hb, gM_9 hb, gM_10 hb, pM_0 hb, pM_1 hb, pM_2 hb, pM_3 hb, pM_4 hb, lM_5 hb hi8, sM_5 hb hi8, lM_6 hb hi8, sM_6 hb hi8, lM_7 hb hi8, sM_7 hb hi8, lM_8 hb hi8, sM_8 hb hi8, lM_10 hb hi8, sM_10 hb hi8, am_b_some]
      rw [← nI_succ, show nearL (M.2 7) v i ||| M.2 7 i = nearL (M.2 7) v (i + 1) by simp [nearL, c]]
      exact ih
theorem ok_hearing (hb : b + 6 < h.1) (hn : M.1 0 = nI n) (h8 : n ≤ 8) (hs : ∀ v, v < 8 → sm (M.2 7 v)) {x : Int32} {k : Nat} (hk : k < 9) : am_ok L xs m_X0_hearing [.ref b, .int x, .int (nI k)] (ob sgM h b M) (some (hearing (M.2 7) n x k)) (ob sgM h b M) := by
  refine en_X0_hearing (cM hb) rfl rfl (ch_X0_hearing_0 ?_)
  have key := up_to (P := fun i => am_wa L xs m_X0_hearing (ob sgM h b M) (some (hearing (M.2 7) n x k)) (ob sgM h b M) 5 [.ref b, .int x, .int (nI k), .int (bs (hears (M.2 7) x k) i), .int (nI i)] [] (ob sgM h b M)) n ?_ ?_ 0 (by omega)
  · exact key
  · refine ch_X0_hearing_5 ?_
    simp only [cM hb, gM_0 hb, gM_1 hb, gM_2 hb, gM_3 hb, gM_4 hb, gM_5 hb, gM_6 hb, gM_7 hb, gM_8 hb, gM_9 hb, gM_10 hb, pM_0 hb, pM_1 hb, pM_2 hb, pM_3 hb, pM_4 hb, am_b_some, hn]
    rw [if_neg (nI_irr n)]
    (first | exact ⟨fit_i _, rfl, rfl⟩ | exact ⟨fit_i _, rfl, trivial⟩ | exact ⟨fit_i _, trivial, rfl⟩ | exact ⟨fit_i _, trivial, trivial⟩)
  · intro i hi ih
    have hi8 : i < 8 := by omega
    refine ch_X0_hearing_5 ?_
    simp only [cM hb, gM_0 hb, gM_1 hb, gM_2 hb, gM_3 hb, gM_4 hb, gM_5 hb, gM_6 hb, gM_7 hb, gM_8 hb, gM_9 hb, gM_10 hb, pM_0 hb, pM_1 hb, pM_2 hb, pM_3 hb, pM_4 hb, lM_5 hb hi8, sM_5 hb hi8, lM_6 hb hi8, sM_6 hb hi8, lM_7 hb hi8, sM_7 hb hi8, lM_8 hb hi8, sM_8 hb hi8, lM_10 hb hi8, sM_10 hb hi8, am_b_some, hn]
    rw [if_pos (nI_lt hi (by omega))]
    refine ⟨_, _, ok_bitCount (sm_and (hs i hi8)), br2 (fun c => ?_) (fun c => ?_)⟩
    · have hc : ¬ k ≤ pop (M.2 7 i &&& x) := fun z => nI_nlt (a := pop (M.2 7 i &&& x)) (b := k) z (by have := pop_le (M.2 7 i &&& x); omega) c
      rw [← nI_succ, show bs (hears (M.2 7) x k) i = bs (hears (M.2 7) x k) (i + 1) by rw [bs_succ, if_neg (by simp [hears, hc])]]
      exact ih
    · have hc : k ≤ pop (M.2 7 i &&& x) := by
        rcases Nat.lt_or_ge (pop (M.2 7 i &&& x)) k with z | z
        · exact absurd (nI_lt z (by omega)) c
        · exact z
      rw [← nI_succ, show bs (hears (M.2 7) x k) i ||| (1 : Int32) <<< (nI i &&& 31) = bs (hears (M.2 7) x k) (i + 1) by rw [bs_succ, if_pos (by simp [hears, hc])]]
      exact ih
theorem ok_nearToAny (hb : b + 6 < h.1) (hn : M.1 0 = nI n) (h8 : n ≤ 8) {x : Int32} : am_ok L xs m_X0_nearToAny [.ref b, .int x] (ob sgM h b M) (some (nearTo (M.2 7) n x)) (ob sgM h b M) := by
  refine en_X0_nearToAny (cM hb) rfl rfl (ch_X0_nearToAny_0 ?_)
  have key := up_to (P := fun i => am_wa L xs m_X0_nearToAny (ob sgM h b M) (some (nearTo (M.2 7) n x)) (ob sgM h b M) 4 [.ref b, .int x, .int (bs (fun v => decide (¬ near (M.2 7) n v &&& x = 0)) i), .int (nI i)] [] (ob sgM h b M)) n ?_ ?_ 0 (by omega)
  · exact key
  · refine ch_X0_nearToAny_4 ?_
    simp only [cM hb, gM_0 hb, gM_1 hb, gM_2 hb, gM_3 hb, gM_4 hb, gM_5 hb, gM_6 hb, gM_7 hb, gM_8 hb, gM_9 hb, gM_10 hb, pM_0 hb, pM_1 hb, pM_2 hb, pM_3 hb, pM_4 hb, am_b_some, hn]
    rw [if_neg (nI_irr n)]
    (first | exact ⟨fit_i _, rfl, rfl⟩ | exact ⟨fit_i _, rfl, trivial⟩ | exact ⟨fit_i _, trivial, rfl⟩ | exact ⟨fit_i _, trivial, trivial⟩)
  · intro i hi ih
    have hi8 : i < 8 := by omega
    refine ch_X0_nearToAny_4 ?_
    simp only [cM hb, gM_0 hb, gM_1 hb, gM_2 hb, gM_3 hb, gM_4 hb, gM_5 hb, gM_6 hb, gM_7 hb, gM_8 hb, gM_9 hb, gM_10 hb, pM_0 hb, pM_1 hb, pM_2 hb, pM_3 hb, pM_4 hb, lM_5 hb hi8, sM_5 hb hi8, lM_6 hb hi8, sM_6 hb hi8, lM_7 hb hi8, sM_7 hb hi8, lM_8 hb hi8, sM_8 hb hi8, lM_10 hb hi8, sM_10 hb hi8, am_b_some, hn]
    rw [if_pos (nI_lt hi (by omega))]
    refine ⟨_, _, ok_near hb hn h8 hi8, br2 (fun c => ?_) (fun c => ?_)⟩
    · rw [bs_succ, if_neg (by simp [c])] at ih
      rw [← nI_succ]
      exact ih
    · rw [bs_succ, if_pos (by simp [c])] at ih
      rw [← nI_succ]
      exact ih
theorem ok_holders (hb : b + 6 < h.1) (hn : M.1 0 = nI n) (h8 : n ≤ 8) (hs : s < 32) : am_ok L xs m_X0_holders [.ref b, .int (nI s)] (ob sgM h b M) (some (holders (M.2 8) n s)) (ob sgM h b M) := by
  refine en_X0_holders (cM hb) rfl rfl (ch_X0_holders_0 ?_)
  have key := up_to (P := fun i => am_wa L xs m_X0_holders (ob sgM h b M) (some (holders (M.2 8) n s)) (ob sgM h b M) 4 [.ref b, .int (nI s), .int (bs (fun v => bt (M.2 8 v) s) i), .int (nI i)] [] (ob sgM h b M)) n ?_ ?_ 0 (by omega)
  · exact key
  · refine ch_X0_holders_4 ?_
    simp only [cM hb, gM_0 hb, gM_1 hb, gM_2 hb, gM_3 hb, gM_4 hb, gM_5 hb, gM_6 hb, gM_7 hb, gM_8 hb, gM_9 hb, gM_10 hb, pM_0 hb, pM_1 hb, pM_2 hb, pM_3 hb, pM_4 hb, am_b_some, hn]
    rw [if_neg (nI_irr n)]
    (first | exact ⟨fit_i _, rfl, rfl⟩ | exact ⟨fit_i _, rfl, trivial⟩ | exact ⟨fit_i _, trivial, rfl⟩ | exact ⟨fit_i _, trivial, trivial⟩)
  · intro i hi ih
    have hi8 : i < 8 := by omega
    refine ch_X0_holders_4 ?_
    simp only [cM hb, gM_0 hb, gM_1 hb, gM_2 hb, gM_3 hb, gM_4 hb, gM_5 hb, gM_6 hb, gM_7 hb, gM_8 hb, gM_9 hb, gM_10 hb, pM_0 hb, pM_1 hb, pM_2 hb, pM_3 hb, pM_4 hb, lM_5 hb hi8, sM_5 hb hi8, lM_6 hb hi8, sM_6 hb hi8, lM_7 hb hi8, sM_7 hb hi8, lM_8 hb hi8, sM_8 hb hi8, lM_10 hb hi8, sM_10 hb hi8, am_b_some, hn]
    rw [if_pos (nI_lt hi (by omega))]
    refine ⟨_, _, ok_has hs, br2 (fun c => ?_) (fun c => ?_)⟩
    · rw [bz_ne] at c
      rw [bs_succ, if_neg (by simp [c])] at ih
      rw [← nI_succ]
      exact ih
    · rw [bz_ne] at c
      rw [bs_succ, if_pos (by simpa using c)] at ih
      rw [← nI_succ]
      exact ih
theorem ok_covered (hb : b + 6 < h.1) (hn : M.1 0 = nI n) (h8 : n ≤ 8) (hs : ∀ v, v < 8 → sm (M.2 8 v)) : am_ok L xs m_X0_covered [.ref b] (ob sgM h b M) (some (covered (M.2 5) (M.2 8) n)) (ob sgM h b M) := by
  refine en_X0_covered (cM hb) rfl rfl (ch_X0_covered_0 ?_)
  have key := up_to (P := fun i => am_wa L xs m_X0_covered (ob sgM h b M) (some (covered (M.2 5) (M.2 8) n)) (ob sgM h b M) 4 [.ref b, .int (bs (cov (M.2 5) (M.2 8)) i), .int (nI i)] [] (ob sgM h b M)) n ?_ ?_ 0 (by omega)
  · exact key
  · refine ch_X0_covered_4 ?_
    simp only [cM hb, gM_0 hb, gM_1 hb, gM_2 hb, gM_3 hb, gM_4 hb, gM_5 hb, gM_6 hb, gM_7 hb, gM_8 hb, gM_9 hb, gM_10 hb, pM_0 hb, pM_1 hb, pM_2 hb, pM_3 hb, pM_4 hb, am_b_some, hn]
    rw [if_neg (nI_irr n)]
    (first | exact ⟨fit_i _, rfl, rfl⟩ | exact ⟨fit_i _, rfl, trivial⟩ | exact ⟨fit_i _, trivial, rfl⟩ | exact ⟨fit_i _, trivial, trivial⟩)
  · intro i hi ih
    have hi8 : i < 8 := by omega
    refine ch_X0_covered_4 ?_
    simp only [cM hb, gM_0 hb, gM_1 hb, gM_2 hb, gM_3 hb, gM_4 hb, gM_5 hb, gM_6 hb, gM_7 hb, gM_8 hb, gM_9 hb, gM_10 hb, pM_0 hb, pM_1 hb, pM_2 hb, pM_3 hb, pM_4 hb, lM_5 hb hi8, sM_5 hb hi8, lM_6 hb hi8, sM_6 hb hi8, lM_7 hb hi8, sM_7 hb hi8, lM_8 hb hi8, sM_8 hb hi8, lM_10 hb hi8, sM_10 hb hi8, am_b_some, hn]
    rw [if_pos (nI_lt hi (by omega))]
    refine ⟨_, _, ok_bitCount (hs i hi8), ?_⟩
    simp only [cM hb, gM_0 hb, gM_1 hb, gM_2 hb, gM_3 hb, gM_4 hb, gM_5 hb, gM_6 hb, gM_7 hb, gM_8 hb, gM_9 hb, gM_10 hb, pM_0 hb, pM_1 hb, pM_2 hb, pM_3 hb, pM_4 hb, lM_5 hb hi8, sM_5 hb hi8, lM_6 hb hi8, sM_6 hb hi8, lM_7 hb hi8, sM_7 hb hi8, lM_8 hb hi8, sM_8 hb hi8, lM_10 hb hi8, sM_10 hb hi8, am_b_some]
    refine br2 (fun c => ?_) (fun c => ?_)
    · rw [bs_succ, if_neg (by simp [cov, c])] at ih
      rw [← nI_succ]
      exact ih
    · rw [bs_succ, if_pos (by simp only [cov, c]; decide)] at ih
      rw [← nI_succ]
      exact ih
end ME
