/-! MESH: the cycle, whole; frames; what is counted -/
def cyC (M : sg_S) (n t : Nat) : Int32 := contF (M.2 7) (M.2 5) (M.2 8) n t
def cyA (M : sg_S) (n t : Nat) : Int32 × Int32 := askL (M.2 6) (cyC M n t) (M.1 3) n
def cyR (M : sg_S) (n t : Nat) : Int32 := hearing (M.2 7) n (cyA M n t).1 2 &&& ((cyA M n t).1 ^^^ (-1))
def cyF (M : sg_S) (n t : Nat) : Int32 := (cyA M n t).1 &&& (hearing (M.2 7) n (cyR M n t) 1 ^^^ (-1))
def cyN (M : sg_S) (n t : Nat) : Int32 := hearing (M.2 7) n (cyF M n t) 1 &&& ((cyA M n t).1 ^^^ (-1))
def cyD (M : sg_S) (n t : Nat) : (Nat → Int32) × Int32 := drL (cyF M n t) (-1) (cyA M n t).2 (M.2 10) n
def cyS (M : sg_S) (n t : Nat) : (Nat → Int32) × Int32 := seO (M.2 7) n t (cyN M n t) (cyD M n t).1 (M.2 8) 8
def cyP (M : sg_S) (n t : Nat) : Nat → Int32 := upd (upd (upd (upd (upd (M.2 9) 0 (cyA M n t).1) 1 (cyR M n t)) 2 (cyF M n t)) 3 (cyN M n t)) 4 (cyS M n t).2
/-- a mesh behind a cycle -/
def cyM (M : sg_S) (n t : Nat) : sg_S := (upd (upd M.1 3 (cyD M n t).2) 4 1, va_up (va_up (va_up (va_up M.2 10 (cyD M n t).1) 8 (cyS M n t).1) 6 (shL (M.2 7) n (cyA M n t).1 (cyS M n t).2 (M.2 6) n)) 9 (cyP M n t))
def frN (M : sg_S) (n c : Nat) : Nat → sg_S
  | 0 => M
  | k + 1 => cyM (frN M n c k) n (k / c)
section C2
variable {L : Nat} {xs : Nat → Int32} {h : am_H} {b n v s t : Nat} {M : sg_S}
theorem ok_changeShares (hb : b + 6 < h.1) (hn : M.1 0 = nI n) (h8 : n ≤ 8) (hk : ∀ v, v < 8 → sm (M.2 7 v)) {a se : Int32} : am_ok L xs m_X0_changeShares [.ref b, .int a, .int se] (ob sgM h b M) none (ob sgM h b (M.1, va_up M.2 6 (shL (M.2 7) n a se (M.2 6) n))) := by
  refine en_X0_changeShares (cM hb) rfl rfl (ch_X0_changeShares_0 ⟨_, _, ok_nearToAny hb hn h8, _, _, ok_hearing (k := 1) hb hn h8 hk (by omega), ?_⟩)
  have key := up_to (P := fun i => am_wa L xs m_X0_changeShares (ob sgM h b M) none (ob sgM h b (M.1, va_up M.2 6 (shL (M.2 7) n a se (M.2 6) n))) 23 [.ref b, .int a, .int se, .null, .int (joF (M.2 7) n se), .int (nI i)] [] (ob sgM h b (M.1, va_up M.2 6 (shL (M.2 7) n a se (M.2 6) i)))) n ?_ ?_ 0 (by omega)
  · simp only [shL, vu_id] at key
    exact key
  · refine ch_X0_changeShares_23 ?_
    simp only [cM hb, gM_0 hb, gM_1 hb, gM_2 hb, gM_3 hb, gM_4 hb, gM_5 hb, gM_6 hb, gM_7 hb, gM_8 hb, gM_9 hb, gM_10 hb, pM_0 hb, pM_1 hb, pM_2 hb, pM_3 hb, pM_4 hb, am_b_some, hn]
    rw [if_neg (nI_irr n)]
    (first | exact ⟨rfl, rfl⟩ | exact ⟨rfl, trivial⟩ | exact ⟨trivial, rfl⟩ | exact ⟨trivial, trivial⟩ | exact trivial)
  · intro i hi ih
    have hi8 : i < 8 := by omega
    refine ch_X0_changeShares_23 ?_
    simp only [cM hb, gM_0 hb, gM_1 hb, gM_2 hb, gM_3 hb, gM_4 hb, gM_5 hb, gM_6 hb, gM_7 hb, gM_8 hb, gM_9 hb, gM_10 hb, pM_0 hb, pM_1 hb, pM_2 hb, pM_3 hb, pM_4 hb, am_b_some, hn]
    rw [if_pos (nI_lt hi (by omega))]
    refine ⟨_, _, ok_has (by omega), br2 (fun c => ⟨_, _, ok_has (by omega), br2 (fun d => ?_) (fun d => ?_)⟩) (fun c => ⟨_, _, ok_has (by omega), br2 (fun d => ?_) (fun d => ?_)⟩)⟩
    · rw [bz_ne] at c d
      simp only [shL, c, d] at ih
      rw [← nI_succ]
      exact ih
    · rw [bz_ne] at c d
      simp only [cM hb, gM_0 hb, gM_1 hb, gM_2 hb, gM_3 hb, gM_4 hb, gM_5 hb, gM_6 hb, gM_7 hb, gM_8 hb, gM_9 hb, gM_10 hb, pM_0 hb, pM_1 hb, pM_2 hb, pM_3 hb, pM_4 hb, lM_5 hb hi8, sM_5 hb hi8, lM_6 hb hi8, sM_6 hb hi8, lM_7 hb hi8, sM_7 hb hi8, lM_8 hb hi8, sM_8 hb hi8, lM_10 hb hi8, sM_10 hb hi8, am_b_some, vu_at, vu_vu]
      simp only [shL, c, show bt (joF (M.2 7) n se) i = true by simpa using d, if_true] at ih
      rw [← nI_succ]
      exact ih
    · rw [bz_ne] at c d
      simp only [cM hb, gM_0 hb, gM_1 hb, gM_2 hb, gM_3 hb, gM_4 hb, gM_5 hb, gM_6 hb, gM_7 hb, gM_8 hb, gM_9 hb, gM_10 hb, pM_0 hb, pM_1 hb, pM_2 hb, pM_3 hb, pM_4 hb, lM_5 hb hi8, sM_5 hb hi8, lM_6 hb hi8, sM_6 hb hi8, lM_7 hb hi8, sM_7 hb hi8, lM_8 hb hi8, sM_8 hb hi8, lM_10 hb hi8, sM_10 hb hi8, am_b_some, vu_at, vu_vu]
      simp only [shL, show bt a i = true by simpa using c, d, if_true] at ih
      rw [← nI_succ]
      exact ⟨by decide +kernel, ih⟩
    · rw [bz_ne] at c d
      simp only [shL, show bt a i = true by simpa using c, show bt se i = true by simpa using d, if_true] at ih
      rw [← nI_succ]
      exact ih
theorem ok_runCycle (hb : b + 6 < h.1) (hn : M.1 0 = nI n) (h8 : n ≤ 8) (hk : ∀ v, v < 8 → sm (M.2 7 v)) (hh : ∀ v, v < 8 → sm (M.2 8 v)) (ht : t < 4) : am_ok L xs m_X0_runCycle [.ref b, .int (nI t)] (ob sgM h b M) none (ob sgM h b (cyM M n t)) := by
  obtain ⟨M1, e1⟩ : ∃ M1 : sg_S, M1 = (upd M.1 3 (cyA M n t).2, M.2) := ⟨_, rfl⟩
  have hn1 : M1.1 0 = nI n := by rw [e1]; exact hn
  have hk1 : ∀ v, v < 8 → sm (M1.2 7 v) := by rw [e1]; exact hk
  refine en_X0_runCycle (cM hb) rfl rfl (ch_X0_runCycle_0 ⟨_, _, ok_contenders hb hn h8 hh (by omega), _, ob sgM h b M1, by rw [e1]; exact ok_ask hb hn h8, _, _, ok_hearing (k := 2) hb hn1 h8 hk1 (by omega), _, _, ok_hearing (k := 1) hb hn1 h8 hk1 (by omega), _, _, ok_hearing (k := 1) hb hn1 h8 hk1 (by omega), _, _, ok_settle hb hn1 h8 ht, ?_⟩)
  subst e1
  refine ⟨_, ok_changeShares (M := (upd (upd M.1 3 (cyA M n t).2) 3 (cyD M n t).2, va_up (va_up M.2 10 (cyD M n t).1) 8 (cyS M n t).1)) hb hn h8 hk, Or.inr rfl, ?_⟩
  have z0 : (0 : Int32) = nI 0 := rfl
  have z1 : (1 : Int32) = nI 1 := rfl
  have z2 : (2 : Int32) = nI 2 := rfl
  have z3 : (3 : Int32) = nI 3 := rfl
  have z4 : (4 : Int32) = nI 4 := rfl
  have s0 : ∀ {S : sg_S} {x : Int32}, am_sI (ob sgM h b S) .int (b + 5) 0 x = some (ob sgM h b (S.1, va_up S.2 9 (upd (S.2 9) 0 x))) := fun {S x} => sM_9 (i := 0) hb (by omega)
  have s1 : ∀ {S : sg_S} {x : Int32}, am_sI (ob sgM h b S) .int (b + 5) 1 x = some (ob sgM h b (S.1, va_up S.2 9 (upd (S.2 9) 1 x))) := fun {S x} => sM_9 (i := 1) hb (by omega)
  have s2 : ∀ {S : sg_S} {x : Int32}, am_sI (ob sgM h b S) .int (b + 5) 2 x = some (ob sgM h b (S.1, va_up S.2 9 (upd (S.2 9) 2 x))) := fun {S x} => sM_9 (i := 2) hb (by omega)
  have s3 : ∀ {S : sg_S} {x : Int32}, am_sI (ob sgM h b S) .int (b + 5) 3 x = some (ob sgM h b (S.1, va_up S.2 9 (upd (S.2 9) 3 x))) := fun {S x} => sM_9 (i := 3) hb (by omega)
  have s4 : ∀ {S : sg_S} {x : Int32}, am_sI (ob sgM h b S) .int (b + 5) 4 x = some (ob sgM h b (S.1, va_up S.2 9 (upd (S.2 9) 4 x))) := fun {S x} => sM_9 (i := 4) hb (by omega)
  simp only [cM hb, gM_0 hb, gM_1 hb, gM_2 hb, gM_3 hb, gM_4 hb, gM_5 hb, gM_6 hb, gM_7 hb, gM_8 hb, gM_9 hb, gM_10 hb, pM_0 hb, pM_1 hb, pM_2 hb, pM_3 hb, pM_4 hb, am_b_some, s0, s1, s2, s3, s4, vu_vu, vu_at, upd_upd]
  refine ⟨trivial, ?_⟩
  first | trivial | rfl
theorem ok_runFrame (hb : b + 6 < h.1) {m c : Nat} (h1 : M.1 1 = nI m) (hm : m ≤ 4) (h2 : M.1 2 = nI c) (hc : 1 ≤ c) (hc5 : c ≤ 5) (hr : ∀ k, k < m * c → am_ok L xs m_X0_runCycle [.ref b, .int (nI (k / c))] (ob sgM h b (frN M n c k)) none (ob sgM h b (frN M n c (k + 1)))) (hf : ∀ k, k ≤ m * c → (frN M n c k).1 1 = M.1 1 ∧ (frN M n c k).1 2 = M.1 2) : am_ok L xs m_X0_runFrame [.ref b] (ob sgM h b M) none (ob sgM h b (frN M n c (m * c))) := by
  refine en_X0_runFrame (cM hb) rfl rfl (ch_X0_runFrame_0 ?_)
  have key := up_to (P := fun i => am_wa L xs m_X0_runFrame (ob sgM h b M) none (ob sgM h b (frN M n c (m * c))) 2 [.ref b, .int (nI i), .null] [] (ob sgM h b (frN M n c (i * c)))) m ?_ ?_ 0 (by omega)
  · rw [Nat.zero_mul] at key
    exact key
  · refine ch_X0_runFrame_2 ?_
    simp only [cM hb, gM_0 hb, gM_1 hb, gM_2 hb, gM_3 hb, gM_4 hb, gM_5 hb, gM_6 hb, gM_7 hb, gM_8 hb, gM_9 hb, gM_10 hb, pM_0 hb, pM_1 hb, pM_2 hb, pM_3 hb, pM_4 hb, am_b_some, (hf _ (Nat.le_refl _)).1, h1]
    rw [if_neg (nI_irr m)]
    (first | exact ⟨rfl, rfl⟩ | exact ⟨rfl, trivial⟩ | exact ⟨trivial, rfl⟩ | exact ⟨trivial, trivial⟩ | exact trivial)
  · intro i hi ih
    have hic : i * c + c ≤ m * c := by
      have := Nat.mul_le_mul_right c (show i + 1 ≤ m by omega)
      rw [Nat.succ_mul] at this
      exact this
    refine ch_X0_runFrame_2 ?_
    simp only [cM hb, gM_0 hb, gM_1 hb, gM_2 hb, gM_3 hb, gM_4 hb, gM_5 hb, gM_6 hb, gM_7 hb, gM_8 hb, gM_9 hb, gM_10 hb, pM_0 hb, pM_1 hb, pM_2 hb, pM_3 hb, pM_4 hb, am_b_some, (hf _ (show i * c ≤ m * c by omega)).1, h1]
    rw [if_pos (nI_lt hi (by omega))]
    have inner := up_to (P := fun j => am_wa L xs m_X0_runFrame (ob sgM h b M) none (ob sgM h b (frN M n c (m * c))) 12 [.ref b, .int (nI i), .int (nI j)] [] (ob sgM h b (frN M n c (i * c + j)))) c ?_ ?_ 0 (by omega)
    · exact inner
    · refine ch_X0_runFrame_12 ?_
      simp only [cM hb, gM_0 hb, gM_1 hb, gM_2 hb, gM_3 hb, gM_4 hb, gM_5 hb, gM_6 hb, gM_7 hb, gM_8 hb, gM_9 hb, gM_10 hb, pM_0 hb, pM_1 hb, pM_2 hb, pM_3 hb, pM_4 hb, am_b_some, (hf _ (show i * c + c ≤ m * c by omega)).2, h2]
      rw [if_neg (nI_irr c), ← nI_succ]
      rw [Nat.succ_mul] at ih
      exact ih
    · intro j hj ihj
      refine ch_X0_runFrame_12 ?_
      simp only [cM hb, gM_0 hb, gM_1 hb, gM_2 hb, gM_3 hb, gM_4 hb, gM_5 hb, gM_6 hb, gM_7 hb, gM_8 hb, gM_9 hb, gM_10 hb, pM_0 hb, pM_1 hb, pM_2 hb, pM_3 hb, pM_4 hb, am_b_some, (hf _ (show i * c + j ≤ m * c by omega)).2, h2]
      rw [if_pos (nI_lt hj (by omega))]
      have e := hr (i * c + j) (by omega)
      have ed : (i * c + j) / c = i := by
        rw [Nat.mul_comm, Nat.mul_add_div (by omega), Nat.div_eq_of_lt hj, Nat.add_zero]
      rw [ed] at e
      refine ⟨_, e, ?_⟩
      rw [← nI_succ]
      exact ihj
def linkN (K : Nat → Int32) (n : Nat) : Nat := fb_sm (fun v => pop (K v)) n
theorem linkN_le (K : Nat → Int32) (n : Nat) : linkN K n ≤ n * 8 := fb_sm_bound (fun _ _ => pop_le _)
theorem nI_half {a : Nat} (ha : a < 2 ^ 31) : nI a / 2 = nI (a / 2) := pk_div (d := 2) ha (by omega) (by omega)
theorem ok_linkCount (hb : b + 6 < h.1) (hn : M.1 0 = nI n) (h8 : n ≤ 8) (hk : ∀ v, v < 8 → sm (M.2 7 v)) : am_ok L xs m_X0_linkCount [.ref b] (ob sgM h b M) (some (nI (linkN (M.2 7) n / 2))) (ob sgM h b M) := by
  refine en_X0_linkCount (cM hb) rfl rfl (ch_X0_linkCount_0 ?_)
  have key := up_to (P := fun i => am_wa L xs m_X0_linkCount (ob sgM h b M) (some (nI (linkN (M.2 7) n / 2))) (ob sgM h b M) 4 [.ref b, .int (nI (linkN (M.2 7) i)), .int (nI i)] [] (ob sgM h b M)) n ?_ ?_ 0 (by omega)
  · exact key
  · refine ch_X0_linkCount_4 ?_
    simp only [cM hb, gM_0 hb, gM_1 hb, gM_2 hb, gM_3 hb, gM_4 hb, gM_5 hb, gM_6 hb, gM_7 hb, gM_8 hb, gM_9 hb, gM_10 hb, pM_0 hb, pM_1 hb, pM_2 hb, pM_3 hb, pM_4 hb, am_b_some, hn]
    rw [if_neg (nI_irr n), nI_half (by have := linkN_le (M.2 7) n; omega)]
    refine ⟨by decide +kernel, ?_⟩
    (first | exact ⟨fit_i _, rfl, rfl⟩ | exact ⟨fit_i _, rfl, trivial⟩ | exact ⟨fit_i _, trivial, rfl⟩ | exact ⟨fit_i _, trivial, trivial⟩)
  · intro i hi ih
    have hi8 : i < 8 := by omega
    refine ch_X0_linkCount_4 ?_
    simp only [cM hb, gM_0 hb, gM_1 hb, gM_2 hb, gM_3 hb, gM_4 hb, gM_5 hb, gM_6 hb, gM_7 hb, gM_8 hb, gM_9 hb, gM_10 hb, pM_0 hb, pM_1 hb, pM_2 hb, pM_3 hb, pM_4 hb, lM_5 hb hi8, sM_5 hb hi8, lM_6 hb hi8, sM_6 hb hi8, lM_7 hb hi8, sM_7 hb hi8, lM_8 hb hi8, sM_8 hb hi8, lM_10 hb hi8, sM_10 hb hi8, am_b_some, hn]
    rw [if_pos (nI_lt hi (by omega))]
    refine ⟨_, _, ok_bitCount (hk i hi8), ?_⟩
    rw [nI_add, ← nI_succ]
    exact ih
def allC (Wt H : Nat → Int32) (n : Nat) : Bool := decide (∀ v, v < n → cov Wt H v = true)
theorem pop_bs {P : Nat → Bool} {n : Nat} (h8 : n ≤ 8) : pop (bs P n) = fb_ct P n := by
  unfold pop
  have e : fb_ct (bt (bs P n)) 8 = fb_ct (fun i => decide (i < n) && P i) 8 := fb_ct_cong (fun k hk => bt_bs P (by omega) (by omega))
  rw [e]
  obtain ⟨d, hd⟩ : ∃ d, 8 = n + d := ⟨8 - n, by omega⟩
  rw [hd, fb_ct_split]
  have e1 : fb_ct (fun i => decide (i < n) && P i) n = fb_ct P n := fb_ct_cong (fun k hk => by simp [hk])
  have e2 : fb_ct (fun k => decide (n + k < n) && P (n + k)) d = 0 := fb_ct_zero.mpr (fun k _ => by rw [decide_eq_false (by omega)]; rfl)
  rw [e1, e2, Nat.add_zero]
theorem ok_isDone (hb : b + 6 < h.1) (hn : M.1 0 = nI n) (h8 : n ≤ 8) (hh : ∀ v, v < 8 → sm (M.2 8 v)) : am_ok L xs m_X0_isDone [.ref b] (ob sgM h b M) (some (if allC (M.2 5) (M.2 8) n then 1 else 0)) (ob sgM h b M) := by
  refine en_X0_isDone (cM hb) rfl rfl (ch_X0_isDone_0 ⟨_, _, ok_covered hb hn h8 hh, _, _, ok_bitCount (sm_bs h8), ?_⟩)
  simp only [cM hb, gM_0 hb, gM_1 hb, gM_2 hb, gM_3 hb, gM_4 hb, gM_5 hb, gM_6 hb, gM_7 hb, gM_8 hb, gM_9 hb, gM_10 hb, pM_0 hb, pM_1 hb, pM_2 hb, pM_3 hb, pM_4 hb, am_b_some, hn, covered, pop_bs h8]
  have hle := fb_ct_le (cov (M.2 5) (M.2 8)) n
  refine br2 (fun c => ?_) (fun c => ?_)
  · rw [nI_eq (by omega) (by omega), fb_ct_all] at c
    rw [show allC (M.2 5) (M.2 8) n = true by simpa [allC] using c]
    (first | exact ⟨fit_1, rfl, rfl⟩ | exact ⟨fit_1, rfl, trivial⟩ | exact ⟨fit_1, trivial, rfl⟩ | exact ⟨fit_1, trivial, trivial⟩)
  · rw [nI_eq (by omega) (by omega), fb_ct_all] at c
    rw [show allC (M.2 5) (M.2 8) n = false by simpa [allC] using c]
    (first | exact ⟨fit_0, rfl, rfl⟩ | exact ⟨fit_0, rfl, trivial⟩ | exact ⟨fit_0, trivial, rfl⟩ | exact ⟨fit_0, trivial, trivial⟩)
end C2
