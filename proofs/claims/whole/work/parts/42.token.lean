/-! THE TEXT'S TOKENS -/
def sml (a : Int32) : Bool := decide (¬ a < 97 ∧ ¬ (122 : Int32) < a)
def dgt (a : Int32) : Bool := decide (¬ a < 48 ∧ ¬ (57 : Int32) < a)
def skF (f : Nat → Int32) : Nat → Nat → Nat
  | 0, s => s
  | k + 1, s => if f s = 32 then skF f k (s + 1) else s
def rnF (p : Int32 → Bool) (f : Nat → Int32) : Nat → Nat → Nat
  | 0, e => e
  | k + 1, e => if p (f e) then rnF p f k (e + 1) else e
def tkS (f : Nat → Int32) (ln e : Nat) : Nat := skF f (ln - e) e
def tkE (f : Nat → Int32) (ln s : Nat) : Nat := if s < ln then (if sml (f s) then rnF sml f (ln - (s + 1)) (s + 1) else if dgt (f s) then rnF dgt f (ln - (s + 1)) (s + 1) else s + 1) else s
theorem skF_le (f : Nat → Int32) : ∀ k s, s ≤ skF f k s ∧ skF f k s ≤ s + k := by
  intro k
  induction k with
  | zero => intro s; exact ⟨Nat.le_refl _, Nat.le_refl _⟩
  | succ k ih =>
    intro s
    unfold skF
    split
    · have := ih (s + 1); omega
    · omega
theorem rnF_le (p : Int32 → Bool) (f : Nat → Int32) : ∀ k s, s ≤ rnF p f k s ∧ rnF p f k s ≤ s + k := by
  intro k
  induction k with
  | zero => intro s; exact ⟨Nat.le_refl _, Nat.le_refl _⟩
  | succ k ih =>
    intro s
    unfold rnF
    split
    · have := ih (s + 1); omega
    · omega
theorem rnF_in (p : Int32 → Bool) (f : Nat → Int32) : ∀ k s i, s ≤ i → i < rnF p f k s → p (f i) = true := by
  intro k
  induction k with
  | zero => intro s i h1 h2; have : i < s := h2; omega
  | succ k ih =>
    intro s i h1 h2
    unfold rnF at h2
    by_cases e : p (f s) = true
    · rw [if_pos e] at h2
      by_cases q : i = s
      · rw [q]; exact e
      · exact ih (s + 1) i (by omega) h2
    · rw [if_neg e] at h2
      omega
theorem tkS_le (f : Nat → Int32) {ln e : Nat} (h : e ≤ ln) : e ≤ tkS f ln e ∧ tkS f ln e ≤ ln := by
  unfold tkS
  have := skF_le f (ln - e) e
  omega
theorem tkE_le (f : Nat → Int32) {ln s : Nat} (h : s ≤ ln) : s ≤ tkE f ln s ∧ tkE f ln s ≤ ln ∧ (s < ln → s < tkE f ln s) := by
  unfold tkE
  by_cases q : s < ln
  · rw [if_pos q]
    split
    · have := rnF_le sml f (ln - (s + 1)) (s + 1); omega
    · split
      · have := rnF_le dgt f (ln - (s + 1)) (s + 1); omega
      · omega
  · rw [if_neg q]; omega
section TK
variable {L : Nat} {xs : Nat → Int32} {h : am_H} {b c : Nat} {X D : sg_S} {ln e : Nat} {f : Nat → Int32}
theorem ok_smlC {a : Int32} : am_ok L xs m_X3_isSmall [.int a] h (some (if sml a then 1 else 0)) h := by
  refine en_X3_isSmall rfl rfl (ch_X3_isSmall_0 ?_)
  refine br2 (fun c => ?_) (fun c => br2 (fun d => ?_) (fun d => ?_))
  · rw [show sml a = false by unfold sml; simp [c]]; (first | exact ⟨fit_0, rfl, rfl⟩ | exact ⟨fit_0, rfl, trivial⟩ | exact ⟨fit_0, trivial, rfl⟩ | exact ⟨fit_0, trivial, trivial⟩)
  · rw [show sml a = false by unfold sml; simp [d]]; (first | exact ⟨fit_0, rfl, rfl⟩ | exact ⟨fit_0, rfl, trivial⟩ | exact ⟨fit_0, trivial, rfl⟩ | exact ⟨fit_0, trivial, trivial⟩)
  · rw [show sml a = true by unfold sml; simp only [c, d, not_false_eq_true, and_self, decide_true]]; (first | exact ⟨fit_1, rfl, rfl⟩ | exact ⟨fit_1, rfl, trivial⟩ | exact ⟨fit_1, trivial, rfl⟩ | exact ⟨fit_1, trivial, trivial⟩)
theorem ok_dgtC {a : Int32} : am_ok L xs m_X3_isDigit [.int a] h (some (if dgt a then 1 else 0)) h := by
  refine en_X3_isDigit rfl rfl (ch_X3_isDigit_0 ?_)
  refine br2 (fun c => ?_) (fun c => br2 (fun d => ?_) (fun d => ?_))
  · rw [show dgt a = false by unfold dgt; simp [c]]; (first | exact ⟨fit_0, rfl, rfl⟩ | exact ⟨fit_0, rfl, trivial⟩ | exact ⟨fit_0, trivial, rfl⟩ | exact ⟨fit_0, trivial, trivial⟩)
  · rw [show dgt a = false by unfold dgt; simp [d]]; (first | exact ⟨fit_0, rfl, rfl⟩ | exact ⟨fit_0, rfl, trivial⟩ | exact ⟨fit_0, trivial, rfl⟩ | exact ⟨fit_0, trivial, trivial⟩)
  · rw [show dgt a = true by unfold dgt; simp only [c, d, not_false_eq_true, and_self, decide_true]]; (first | exact ⟨fit_1, rfl, rfl⟩ | exact ⟨fit_1, rfl, trivial⟩ | exact ⟨fit_1, trivial, rfl⟩ | exact ⟨fit_1, trivial, trivial⟩)
theorem ok_smlD {a : Int32} : am_ok L xs m_X5_isSmall [.int a] h (some (if sml a then 1 else 0)) h := en_X5_isSmall rfl rfl (ch_X5_isSmall_0 ⟨_, _, ok_in, fit_b _, rfl, rfl⟩)
theorem ok_dgtD {a : Int32} : am_ok L xs m_X5_isDigit [.int a] h (some (if dgt a then 1 else 0)) h := en_X5_isDigit rfl rfl (ch_X5_isDigit_0 ⟨_, _, ok_in, fit_b _, rfl, rfl⟩)
theorem nI_ne {a b : Nat} (ha : a < 2 ^ 31) (hb : b < 2 ^ 31) (n : ¬ a = b) : ¬ nI a = nI b := fun z => n ((nI_eq ha hb).mp z)
-- the class's
theorem run91 {A : am_H} (hb : b + 1 < h.1) (hl : X.1 1 = nI ln) (h2 : ln ≤ 200) {u : Int32} : ∀ d e, e + d = ln → am_wa L xs m_X3_nextToken A none (ob sgX h b (upd (upd X.1 2 u) 3 (nI (rnF sml (X.2 0) d e)), X.2)) 91 [.ref b] [] (ob sgX h b (upd (upd X.1 2 u) 3 (nI e), X.2)) := by
  intro d
  induction d with
  | zero =>
    intro e he
    refine ch_X3_nextToken_91 ?_
    simp only [cX hb, gX_0 hb, gX_1 hb, gX_2 hb, gX_3 hb, gX_4 hb, gX_5 hb, pX_1 hb, pX_2 hb, pX_3 hb, pX_4 hb, pX_5 hb, am_b_some, upd_at, upd_ne _ _ (show ¬ 1 = 3 by decide), upd_ne _ _ (show ¬ 1 = 2 by decide), hl]
    rw [if_neg (nI_nlt (by omega) (by omega))]
    (first | exact ⟨rfl, rfl⟩ | exact ⟨rfl, trivial⟩ | exact ⟨trivial, rfl⟩ | exact ⟨trivial, trivial⟩ | exact trivial)
  | succ d ih =>
    intro e he
    refine ch_X3_nextToken_91 ?_
    simp only [cX hb, gX_0 hb, gX_1 hb, gX_2 hb, gX_3 hb, gX_4 hb, gX_5 hb, pX_1 hb, pX_2 hb, pX_3 hb, pX_4 hb, pX_5 hb, am_b_some, upd_at, upd_ne _ _ (show ¬ 1 = 3 by decide), upd_ne _ _ (show ¬ 1 = 2 by decide), hl, lX_0 hb (show e < 200 by omega)]
    rw [if_pos (nI_lt (by omega) (by omega))]
    refine ⟨_, _, ok_smlC, ?_⟩
    unfold rnF
    cases q : sml (X.2 0 e)
    · rw [if_pos (by rfl)]
      (first | exact ⟨rfl, rfl⟩ | exact ⟨rfl, trivial⟩ | exact ⟨trivial, rfl⟩ | exact ⟨trivial, trivial⟩ | exact trivial)
    · rw [if_neg (by decide)]
      simp only [cX hb, gX_0 hb, gX_1 hb, gX_2 hb, gX_3 hb, gX_4 hb, gX_5 hb, pX_1 hb, pX_2 hb, pX_3 hb, pX_4 hb, pX_5 hb, am_b_some, upd_at, upd_upd]
      rw [← nI_succ]
      exact ih (e + 1) (by omega)
theorem run145 {A : am_H} (hb : b + 1 < h.1) (hl : X.1 1 = nI ln) (h2 : ln ≤ 200) {u : Int32} : ∀ d e, e + d = ln → am_wa L xs m_X3_nextToken A none (ob sgX h b (upd (upd X.1 2 u) 3 (nI (rnF dgt (X.2 0) d e)), X.2)) 145 [.ref b] [] (ob sgX h b (upd (upd X.1 2 u) 3 (nI e), X.2)) := by
  intro d
  induction d with
  | zero =>
    intro e he
    refine ch_X3_nextToken_145 ?_
    simp only [cX hb, gX_0 hb, gX_1 hb, gX_2 hb, gX_3 hb, gX_4 hb, gX_5 hb, pX_1 hb, pX_2 hb, pX_3 hb, pX_4 hb, pX_5 hb, am_b_some, upd_at, upd_ne _ _ (show ¬ 1 = 3 by decide), upd_ne _ _ (show ¬ 1 = 2 by decide), hl]
    rw [if_neg (nI_nlt (by omega) (by omega))]
    (first | exact ⟨rfl, rfl⟩ | exact ⟨rfl, trivial⟩ | exact ⟨trivial, rfl⟩ | exact ⟨trivial, trivial⟩ | exact trivial)
  | succ d ih =>
    intro e he
    refine ch_X3_nextToken_145 ?_
    simp only [cX hb, gX_0 hb, gX_1 hb, gX_2 hb, gX_3 hb, gX_4 hb, gX_5 hb, pX_1 hb, pX_2 hb, pX_3 hb, pX_4 hb, pX_5 hb, am_b_some, upd_at, upd_ne _ _ (show ¬ 1 = 3 by decide), upd_ne _ _ (show ¬ 1 = 2 by decide), hl, lX_0 hb (show e < 200 by omega)]
    rw [if_pos (nI_lt (by omega) (by omega))]
    refine ⟨_, _, ok_dgtC, ?_⟩
    unfold rnF
    cases q : dgt (X.2 0 e)
    · rw [if_pos (by rfl)]
      (first | exact ⟨rfl, rfl⟩ | exact ⟨rfl, trivial⟩ | exact ⟨trivial, rfl⟩ | exact ⟨trivial, trivial⟩ | exact trivial)
    · rw [if_neg (by decide)]
      simp only [cX hb, gX_0 hb, gX_1 hb, gX_2 hb, gX_3 hb, gX_4 hb, gX_5 hb, pX_1 hb, pX_2 hb, pX_3 hb, pX_4 hb, pX_5 hb, am_b_some, upd_at, upd_upd]
      rw [← nI_succ]
      exact ih (e + 1) (by omega)
def nxC (X : sg_S) (ln e : Nat) : sg_S := (upd (upd X.1 2 (nI (tkS (X.2 0) ln e))) 3 (nI (tkE (X.2 0) ln (tkS (X.2 0) ln e))), X.2)
theorem ok_nextC (hb : b + 1 < h.1) (hl : X.1 1 = nI ln) (h2 : ln ≤ 200) (he : X.1 3 = nI e) (hel : e ≤ ln) : am_ok L xs m_X3_nextToken [.ref b] (ob sgX h b X) none (ob sgX h b (nxC X ln e)) := by
  refine en_X3_nextToken (cX hb) rfl rfl (ch_X3_nextToken_0 ?_)
  simp only [cX hb, gX_0 hb, gX_1 hb, gX_2 hb, gX_3 hb, gX_4 hb, gX_5 hb, pX_1 hb, pX_2 hb, pX_3 hb, pX_4 hb, pX_5 hb, am_b_some, he]
  have main : ∀ d s, s + d = ln → tkS (X.2 0) ln e = skF (X.2 0) d s → am_wa L xs m_X3_nextToken (ob sgX h b X) none (ob sgX h b (nxC X ln e)) 8 [.ref b] [] (ob sgX h b (upd X.1 2 (nI s), X.2)) := by
    intro d
    induction d with
    | zero =>
      intro s hs et
      have et : tkS (X.2 0) ln e = s := et
      refine ch_X3_nextToken_8 ?_
      simp only [cX hb, gX_0 hb, gX_1 hb, gX_2 hb, gX_3 hb, gX_4 hb, gX_5 hb, pX_1 hb, pX_2 hb, pX_3 hb, pX_4 hb, pX_5 hb, am_b_some, upd_at, upd_ne _ _ (show ¬ 1 = 2 by decide), hl]
      rw [if_neg (nI_nlt (by omega) (by omega))]
      simp only [cX hb, gX_0 hb, gX_1 hb, gX_2 hb, gX_3 hb, gX_4 hb, gX_5 hb, pX_1 hb, pX_2 hb, pX_3 hb, pX_4 hb, pX_5 hb, am_b_some, upd_at, upd_ne _ _ (show ¬ 1 = 3 by decide), upd_ne _ _ (show ¬ 1 = 2 by decide), upd_ne _ _ (show ¬ 2 = 3 by decide), hl]
      rw [if_pos (show nI s = nI ln by rw [show s = ln by omega])]
      refine ⟨trivial, ?_⟩
      unfold nxC
      rw [et, show tkE (X.2 0) ln s = s by unfold tkE; rw [if_neg (by omega)]]
    | succ d ih =>
      intro s hs et
      refine ch_X3_nextToken_8 ?_
      simp only [cX hb, gX_0 hb, gX_1 hb, gX_2 hb, gX_3 hb, gX_4 hb, gX_5 hb, pX_1 hb, pX_2 hb, pX_3 hb, pX_4 hb, pX_5 hb, am_b_some, upd_at, upd_ne _ _ (show ¬ 1 = 2 by decide), hl, lX_0 hb (show s < 200 by omega)]
      rw [if_pos (nI_lt (by omega) (by omega))]
      refine br2 (fun q => ?_) (fun q => ?_)
      · simp only [upd_upd]
        rw [← nI_succ]
        refine ih (s + 1) (by omega) ?_
        rw [et]
        conv => lhs; unfold skF
        rw [if_pos q]
      · have es : tkS (X.2 0) ln e = s := by
          rw [et]
          unfold skF
          rw [if_neg q]
        simp only [cX hb, gX_0 hb, gX_1 hb, gX_2 hb, gX_3 hb, gX_4 hb, gX_5 hb, pX_1 hb, pX_2 hb, pX_3 hb, pX_4 hb, pX_5 hb, am_b_some, upd_at, upd_ne _ _ (show ¬ 1 = 3 by decide), upd_ne _ _ (show ¬ 1 = 2 by decide), upd_ne _ _ (show ¬ 2 = 3 by decide), hl]
        rw [if_neg (nI_ne (by omega) (by omega) (show ¬ s = ln by omega))]
        simp only [cX hb, gX_0 hb, gX_1 hb, gX_2 hb, gX_3 hb, gX_4 hb, gX_5 hb, pX_1 hb, pX_2 hb, pX_3 hb, pX_4 hb, pX_5 hb, am_b_some, upd_at, upd_upd, upd_ne _ _ (show ¬ 2 = 3 by decide), lX_0 hb (show s < 200 by omega), ← nI_succ]
        refine ⟨_, _, ok_smlC, ?_⟩
        have ee : nxC X ln e = (upd (upd X.1 2 (nI s)) 3 (nI (tkE (X.2 0) ln s)), X.2) := by unfold nxC; rw [es]
        rw [ee]
        unfold tkE
        rw [if_pos (show s < ln by omega)]
        cases q2 : sml (X.2 0 s)
        · rw [if_pos (by rfl)]
          simp only [cX hb, gX_0 hb, gX_1 hb, gX_2 hb, gX_3 hb, gX_4 hb, gX_5 hb, pX_1 hb, pX_2 hb, pX_3 hb, pX_4 hb, pX_5 hb, am_b_some, upd_at, upd_ne _ _ (show ¬ 2 = 3 by decide), lX_0 hb (show s < 200 by omega)]
          refine ⟨_, _, ok_dgtC, ?_⟩
          cases q3 : dgt (X.2 0 s)
          · rw [if_pos (by rfl)]
            (first | exact ⟨rfl, rfl⟩ | exact ⟨rfl, trivial⟩ | exact ⟨trivial, rfl⟩ | exact ⟨trivial, trivial⟩ | exact trivial)
          · rw [if_neg (by decide)]
            exact run145 hb hl h2 (ln - (s + 1)) (s + 1) (by omega)
        · rw [if_neg (by decide)]
          exact run91 hb hl h2 (ln - (s + 1)) (s + 1) (by omega)
  exact main (ln - e) e (by omega) rfl
-- the reference's
theorem run100 {A : am_H} (hc : c + 10 < h.1) (hl : D.1 8 = nI ln) (h2 : ln ≤ 200) (hf : ∀ i, i < ln → D.2 7 i = f i) {u : Int32} : ∀ d e, e + d = ln → am_wa L xs m_X5_nextToken A none (ob sgD h c (upd (upd D.1 11 u) 12 (nI (rnF sml f d e)), D.2)) 100 [.ref c] [] (ob sgD h c (upd (upd D.1 11 u) 12 (nI e), D.2)) := by
  intro d
  induction d with
  | zero =>
    intro e he
    refine ch_X5_nextToken_100 ?_
    simp only [cD hc, gD_0 hc, gD_1 hc, gD_2 hc, gD_3 hc, gD_4 hc, gD_5 hc, gD_6 hc, gD_7 hc, gD_8 hc, gD_9 hc, gD_10 hc, gD_11 hc, gD_12 hc, gD_13 hc, gD_14 hc, gD_15 hc, gD_16 hc, gD_17 hc, gD_18 hc, gD_19 hc, pD_1 hc, pD_2 hc, pD_3 hc, pD_5 hc, pD_8 hc, pD_11 hc, pD_12 hc, pD_13 hc, pD_14 hc, pD_15 hc, am_b_some, upd_at, upd_ne _ _ (show ¬ 8 = 12 by decide), upd_ne _ _ (show ¬ 8 = 11 by decide), hl]
    rw [if_neg (nI_nlt (by omega) (by omega))]
    (first | exact ⟨rfl, rfl⟩ | exact ⟨rfl, trivial⟩ | exact ⟨trivial, rfl⟩ | exact ⟨trivial, trivial⟩ | exact trivial)
  | succ d ih =>
    intro e he
    refine ch_X5_nextToken_100 ?_
    simp only [cD hc, gD_0 hc, gD_1 hc, gD_2 hc, gD_3 hc, gD_4 hc, gD_5 hc, gD_6 hc, gD_7 hc, gD_8 hc, gD_9 hc, gD_10 hc, gD_11 hc, gD_12 hc, gD_13 hc, gD_14 hc, gD_15 hc, gD_16 hc, gD_17 hc, gD_18 hc, gD_19 hc, pD_1 hc, pD_2 hc, pD_3 hc, pD_5 hc, pD_8 hc, pD_11 hc, pD_12 hc, pD_13 hc, pD_14 hc, pD_15 hc, am_b_some, upd_at, upd_ne _ _ (show ¬ 8 = 12 by decide), upd_ne _ _ (show ¬ 8 = 11 by decide), hl, lD_7 hc (show e < 200 by omega), hf e (show e < ln by omega)]
    rw [if_pos (nI_lt (by omega) (by omega))]
    refine ⟨_, _, ok_smlD, ?_⟩
    unfold rnF
    cases q : sml (f e)
    · rw [if_pos (by rfl)]
      (first | exact ⟨rfl, rfl⟩ | exact ⟨rfl, trivial⟩ | exact ⟨trivial, rfl⟩ | exact ⟨trivial, trivial⟩ | exact trivial)
    · rw [if_neg (by decide)]
      simp only [cD hc, gD_0 hc, gD_1 hc, gD_2 hc, gD_3 hc, gD_4 hc, gD_5 hc, gD_6 hc, gD_7 hc, gD_8 hc, gD_9 hc, gD_10 hc, gD_11 hc, gD_12 hc, gD_13 hc, gD_14 hc, gD_15 hc, gD_16 hc, gD_17 hc, gD_18 hc, gD_19 hc, pD_1 hc, pD_2 hc, pD_3 hc, pD_5 hc, pD_8 hc, pD_11 hc, pD_12 hc, pD_13 hc, pD_14 hc, pD_15 hc, am_b_some, upd_at, upd_upd]
      rw [← nI_succ]
      exact ih (e + 1) (by omega)
theorem run165 {A : am_H} (hc : c + 10 < h.1) (hl : D.1 8 = nI ln) (h2 : ln ≤ 200) (hf : ∀ i, i < ln → D.2 7 i = f i) {u : Int32} : ∀ d e, e + d = ln → am_wa L xs m_X5_nextToken A none (ob sgD h c (upd (upd D.1 11 u) 12 (nI (rnF dgt f d e)), D.2)) 165 [.ref c] [] (ob sgD h c (upd (upd D.1 11 u) 12 (nI e), D.2)) := by
  intro d
  induction d with
  | zero =>
    intro e he
    refine ch_X5_nextToken_165 ?_
    simp only [cD hc, gD_0 hc, gD_1 hc, gD_2 hc, gD_3 hc, gD_4 hc, gD_5 hc, gD_6 hc, gD_7 hc, gD_8 hc, gD_9 hc, gD_10 hc, gD_11 hc, gD_12 hc, gD_13 hc, gD_14 hc, gD_15 hc, gD_16 hc, gD_17 hc, gD_18 hc, gD_19 hc, pD_1 hc, pD_2 hc, pD_3 hc, pD_5 hc, pD_8 hc, pD_11 hc, pD_12 hc, pD_13 hc, pD_14 hc, pD_15 hc, am_b_some, upd_at, upd_ne _ _ (show ¬ 8 = 12 by decide), upd_ne _ _ (show ¬ 8 = 11 by decide), hl]
    rw [if_neg (nI_nlt (by omega) (by omega))]
    (first | exact ⟨rfl, rfl⟩ | exact ⟨rfl, trivial⟩ | exact ⟨trivial, rfl⟩ | exact ⟨trivial, trivial⟩ | exact trivial)
  | succ d ih =>
    intro e he
    refine ch_X5_nextToken_165 ?_
    simp only [cD hc, gD_0 hc, gD_1 hc, gD_2 hc, gD_3 hc, gD_4 hc, gD_5 hc, gD_6 hc, gD_7 hc, gD_8 hc, gD_9 hc, gD_10 hc, gD_11 hc, gD_12 hc, gD_13 hc, gD_14 hc, gD_15 hc, gD_16 hc, gD_17 hc, gD_18 hc, gD_19 hc, pD_1 hc, pD_2 hc, pD_3 hc, pD_5 hc, pD_8 hc, pD_11 hc, pD_12 hc, pD_13 hc, pD_14 hc, pD_15 hc, am_b_some, upd_at, upd_ne _ _ (show ¬ 8 = 12 by decide), upd_ne _ _ (show ¬ 8 = 11 by decide), hl, lD_7 hc (show e < 200 by omega), hf e (show e < ln by omega)]
    rw [if_pos (nI_lt (by omega) (by omega))]
    refine ⟨_, _, ok_dgtD, ?_⟩
    unfold rnF
    cases q : dgt (f e)
    · rw [if_pos (by rfl)]
      (first | exact ⟨rfl, rfl⟩ | exact ⟨rfl, trivial⟩ | exact ⟨trivial, rfl⟩ | exact ⟨trivial, trivial⟩ | exact trivial)
    · rw [if_neg (by decide)]
      simp only [cD hc, gD_0 hc, gD_1 hc, gD_2 hc, gD_3 hc, gD_4 hc, gD_5 hc, gD_6 hc, gD_7 hc, gD_8 hc, gD_9 hc, gD_10 hc, gD_11 hc, gD_12 hc, gD_13 hc, gD_14 hc, gD_15 hc, gD_16 hc, gD_17 hc, gD_18 hc, gD_19 hc, pD_1 hc, pD_2 hc, pD_3 hc, pD_5 hc, pD_8 hc, pD_11 hc, pD_12 hc, pD_13 hc, pD_14 hc, pD_15 hc, am_b_some, upd_at, upd_upd]
      rw [← nI_succ]
      exact ih (e + 1) (by omega)
def nxD (D : sg_S) (f : Nat → Int32) (ln e : Nat) : sg_S := (upd (upd D.1 11 (nI (tkS f ln e))) 12 (nI (tkE f ln (tkS f ln e))), D.2)
theorem ok_nextD (hc : c + 10 < h.1) (hl : D.1 8 = nI ln) (h2 : ln ≤ 200) (hf : ∀ i, i < ln → D.2 7 i = f i) (he : D.1 12 = nI e) (hel : e ≤ ln) : am_ok L xs m_X5_nextToken [.ref c] (ob sgD h c D) none (ob sgD h c (nxD D f ln e)) := by
  refine en_X5_nextToken (cD hc) rfl rfl (ch_X5_nextToken_0 ?_)
  simp only [cD hc, gD_0 hc, gD_1 hc, gD_2 hc, gD_3 hc, gD_4 hc, gD_5 hc, gD_6 hc, gD_7 hc, gD_8 hc, gD_9 hc, gD_10 hc, gD_11 hc, gD_12 hc, gD_13 hc, gD_14 hc, gD_15 hc, gD_16 hc, gD_17 hc, gD_18 hc, gD_19 hc, pD_1 hc, pD_2 hc, pD_3 hc, pD_5 hc, pD_8 hc, pD_11 hc, pD_12 hc, pD_13 hc, pD_14 hc, pD_15 hc, am_b_some, he]
  have main : ∀ d s, s + d = ln → tkS f ln e = skF f d s → am_wa L xs m_X5_nextToken (ob sgD h c D) none (ob sgD h c (nxD D f ln e)) 8 [.ref c] [] (ob sgD h c (upd D.1 11 (nI s), D.2)) := by
    intro d
    induction d with
    | zero =>
      intro s hs et
      have et : tkS f ln e = s := et
      have nl : ¬ nI s < nI ln := nI_nlt (by omega) (by omega)
      refine ch_X5_nextToken_8 ?_
      simp only [cD hc, gD_0 hc, gD_1 hc, gD_2 hc, gD_3 hc, gD_4 hc, gD_5 hc, gD_6 hc, gD_7 hc, gD_8 hc, gD_9 hc, gD_10 hc, gD_11 hc, gD_12 hc, gD_13 hc, gD_14 hc, gD_15 hc, gD_16 hc, gD_17 hc, gD_18 hc, gD_19 hc, pD_1 hc, pD_2 hc, pD_3 hc, pD_5 hc, pD_8 hc, pD_11 hc, pD_12 hc, pD_13 hc, pD_14 hc, pD_15 hc, am_b_some, upd_at, upd_ne _ _ (show ¬ 8 = 12 by decide), upd_ne _ _ (show ¬ 11 = 12 by decide), upd_ne _ _ (show ¬ 8 = 11 by decide), hl, if_neg nl]
      refine ⟨trivial, ?_⟩
      unfold nxD
      rw [et, show tkE f ln s = s by unfold tkE; rw [if_neg (by omega)]]
    | succ d ih =>
      intro s hs et
      have nl : nI s < nI ln := nI_lt (by omega) (by omega)
      refine ch_X5_nextToken_8 ?_
      simp only [cD hc, gD_0 hc, gD_1 hc, gD_2 hc, gD_3 hc, gD_4 hc, gD_5 hc, gD_6 hc, gD_7 hc, gD_8 hc, gD_9 hc, gD_10 hc, gD_11 hc, gD_12 hc, gD_13 hc, gD_14 hc, gD_15 hc, gD_16 hc, gD_17 hc, gD_18 hc, gD_19 hc, pD_1 hc, pD_2 hc, pD_3 hc, pD_5 hc, pD_8 hc, pD_11 hc, pD_12 hc, pD_13 hc, pD_14 hc, pD_15 hc, am_b_some, upd_at, upd_ne _ _ (show ¬ 8 = 11 by decide), hl, lD_7 hc (show s < 200 by omega), hf s (show s < ln by omega), if_pos nl]
      refine br2 (fun q => ?_) (fun q => ?_)
      · simp only [upd_upd]
        rw [← nI_succ]
        refine ih (s + 1) (by omega) ?_
        rw [et]
        conv => lhs; unfold skF
        rw [if_pos q]
      · have es : tkS f ln e = s := by
          rw [et]
          unfold skF
          rw [if_neg q]
        simp only [cD hc, gD_0 hc, gD_1 hc, gD_2 hc, gD_3 hc, gD_4 hc, gD_5 hc, gD_6 hc, gD_7 hc, gD_8 hc, gD_9 hc, gD_10 hc, gD_11 hc, gD_12 hc, gD_13 hc, gD_14 hc, gD_15 hc, gD_16 hc, gD_17 hc, gD_18 hc, gD_19 hc, pD_1 hc, pD_2 hc, pD_3 hc, pD_5 hc, pD_8 hc, pD_11 hc, pD_12 hc, pD_13 hc, pD_14 hc, pD_15 hc, am_b_some, upd_at, upd_ne _ _ (show ¬ 8 = 12 by decide), upd_ne _ _ (show ¬ 11 = 12 by decide), upd_ne _ _ (show ¬ 8 = 11 by decide), hl, if_pos nl, lD_7 hc (show s < 200 by omega), hf s (show s < ln by omega), ← nI_succ]
        refine ⟨_, _, ok_smlD, ?_⟩
        have ee : nxD D f ln e = (upd (upd D.1 11 (nI s)) 12 (nI (tkE f ln s)), D.2) := by unfold nxD; rw [es]
        rw [ee]
        unfold tkE
        rw [if_pos (show s < ln by omega)]
        cases q2 : sml (f s)
        · rw [if_pos (by rfl)]
          simp only [cD hc, gD_0 hc, gD_1 hc, gD_2 hc, gD_3 hc, gD_4 hc, gD_5 hc, gD_6 hc, gD_7 hc, gD_8 hc, gD_9 hc, gD_10 hc, gD_11 hc, gD_12 hc, gD_13 hc, gD_14 hc, gD_15 hc, gD_16 hc, gD_17 hc, gD_18 hc, gD_19 hc, pD_1 hc, pD_2 hc, pD_3 hc, pD_5 hc, pD_8 hc, pD_11 hc, pD_12 hc, pD_13 hc, pD_14 hc, pD_15 hc, am_b_some, upd_at, upd_ne _ _ (show ¬ 8 = 12 by decide), upd_ne _ _ (show ¬ 11 = 12 by decide), upd_ne _ _ (show ¬ 8 = 11 by decide), hl, if_pos nl, lD_7 hc (show s < 200 by omega), hf s (show s < ln by omega)]
          refine ⟨_, _, ok_dgtD, ?_⟩
          cases q3 : dgt (f s)
          · rw [if_pos (by rfl)]
            (first | exact ⟨rfl, rfl⟩ | exact ⟨rfl, trivial⟩ | exact ⟨trivial, rfl⟩ | exact ⟨trivial, trivial⟩ | exact trivial)
          · rw [if_neg (by decide)]
            exact run165 hc hl h2 hf (ln - (s + 1)) (s + 1) (by omega)
        · rw [if_neg (by decide)]
          exact run100 hc hl h2 hf (ln - (s + 1)) (s + 1) (by omega)
  exact main (ln - e) e (by omega) rfl
end TK
