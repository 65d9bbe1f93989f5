/-! THE REFERENCE'S CYCLE -/
def drl (C l : Int32) : Nat → Int32
  | 0 => l
  | s + 1 => if bt C s then lotS (drl C l s) else drl C l s
theorem drL_2 (C d l : Int32) (f : Nat → Int32) : ∀ s, (drL C d l f s).2 = drl C l s := by
  intro s
  induction s with
  | zero => rfl
  | succ s ih =>
    unfold drL drl
    by_cases c : bt C s = true
    · rw [if_pos c, if_pos c, ih]
    · rw [if_neg c, if_neg c, ih]
theorem drL_1 (C d l : Int32) (f : Nat → Int32) : ∀ n v, (drL C d l f n).1 v = if v < n then (if bt C v then lotV (lotS (drl C l v)) 8 else d) else f v := by
  intro n
  induction n with
  | zero => intro v; simp [drL]
  | succ n ih =>
    intro v
    unfold drL
    by_cases c : bt C n = true
    · rw [if_pos c]
      show upd _ _ _ v = _
      by_cases e : v = n
      · subst e
        rw [upd_at, if_pos (by omega), if_pos c, drL_2]
      · rw [upd_ne _ _ e, ih v]
        by_cases q : v < n
        · rw [if_pos q, if_pos (show v < n + 1 by omega)]
        · rw [if_neg q, if_neg (show ¬ v < n + 1 by omega)]
    · rw [if_neg c]
      show upd _ _ _ v = _
      by_cases e : v = n
      · subst e
        rw [upd_at, if_pos (by omega), if_neg c]
      · rw [upd_ne _ _ e, ih v]
        by_cases q : v < n
        · rw [if_pos q, if_pos (show v < n + 1 by omega)]
        · rw [if_neg q, if_neg (show ¬ v < n + 1 by omega)]
-- lots are small
theorem lotS_nI {a : Nat} (ha : a < 53125) : lotS (nI a) = nI ((a * 171 + 11213) % 53125) := by
  unfold lotS
  have e : nI a * 171 + 11213 = nI (a * 171 + 11213) := by
    show nI a * nI 171 + nI 11213 = _
    rw [pk_mul, nI_add]
  rw [e]
  exact pk_rem (d := 53125) (by omega) (by omega) (by omega)
theorem lotV_nI {a q : Nat} (ha : a < 53125) (hq : 0 < q) (hq2 : q < 2 ^ 31) : lotV (nI a) (nI q) = nI (a / 64 % q) := by
  unfold lotV
  have e : nI a / 64 = nI (a / 64) := pk_div (d := 64) (by omega) (by omega) (by omega)
  rw [e]
  exact pk_rem (by omega) hq hq2
def lotOk (l : Int32) : Prop := ∃ a, a < 53125 ∧ l = nI a
theorem lotOk_S {l : Int32} (h : lotOk l) : lotOk (lotS l) := by
  obtain ⟨a, ha, rfl⟩ := h
  exact ⟨_, Nat.mod_lt _ (by omega), lotS_nI ha⟩
theorem lotOk_askL {Sh : Nat → Int32} {C l : Int32} (h : lotOk l) : ∀ s, lotOk (askL Sh C l s).2 := by
  intro s
  induction s with
  | zero => exact h
  | succ s ih =>
    unfold askL
    split
    · split
      · exact lotOk_S ih
      · exact lotOk_S ih
    · exact ih
theorem lotOk_drl {C l : Int32} (h : lotOk l) : ∀ s, lotOk (drl C l s) := by
  intro s
  induction s with
  | zero => exact h
  | succ s ih =>
    unfold drl
    split
    · exact lotOk_S ih
    · exact ih
theorem lot8 {l : Int32} (h : lotOk l) : ∃ q, q < 8 ∧ lotV (lotS l) 8 = nI q := by
  obtain ⟨a, ha, e⟩ := lotOk_S h
  refine ⟨a / 64 % 8, Nat.mod_lt _ (by omega), ?_⟩
  rw [e]
  exact lotV_nI (q := 8) ha (by omega) (by omega)
-- the first of a set
def fstB (f : Nat → Int32) (x : Int32) : Nat → Option Nat
  | 0 => none
  | i + 1 => if bt x i then (match fstB f x i with
    | none => some i
    | some b => if f b < f i then some i else some b) else fstB f x i
def fstI (o : Option Nat) : Int32 := match o with
  | none => -1
  | some b => nI b
theorem fstB_lt (f : Nat → Int32) (x : Int32) : ∀ i b, fstB f x i = some b → b < i := by
  intro i
  induction i with
  | zero => intro b h; cases h
  | succ i ih =>
    intro b h
    unfold fstB at h
    split at h
    · split at h
      · cases h; omega
      · rename_i b' hb
        have := ih _ hb
        split at h <;> cases h <;> omega
    · have := ih b h; omega
theorem fstB_is {f : Nat → Int32} {x : Int32} {b n : Nat} (hb : b < n) (hx : bt x b = true) (h1 : ∀ i, i < n → bt x i = true → ¬ f b < f i) (h2 : ∀ i, i < b → bt x i = true → f i < f b) : fstB f x n = some b := by
  have low : ∀ i, i ≤ b → fstB f x i = none ∨ ∃ q, q < i ∧ fstB f x i = some q ∧ f q < f b := by
    intro i
    induction i with
    | zero => intro _; exact Or.inl rfl
    | succ i ih =>
      intro hi
      unfold fstB
      by_cases c : bt x i = true
      · rw [if_pos c]
        rcases ih (by omega) with e | ⟨q, q1, q2, q3⟩
        · rw [e]
          exact Or.inr ⟨i, by omega, rfl, h2 i (by omega) c⟩
        · rw [q2]
          by_cases d : f q < f i
          · refine Or.inr ⟨i, by omega, ?_, h2 i (by omega) c⟩
            show (if f q < f i then some i else some q) = _
            rw [if_pos d]
          · refine Or.inr ⟨q, by omega, ?_, q3⟩
            show (if f q < f i then some i else some q) = _
            rw [if_neg d]
      · rw [if_neg c]
        rcases ih (by omega) with e | ⟨q, q1, q2, q3⟩
        · exact Or.inl e
        · exact Or.inr ⟨q, by omega, q2, q3⟩
  have high : ∀ d, b + 1 + d ≤ n → fstB f x (b + 1 + d) = some b := by
    intro d
    induction d with
    | zero =>
      intro _
      show (if bt x b then _ else _) = _
      rw [if_pos hx]
      rcases low b (Nat.le_refl _) with e | ⟨q, q1, q2, q3⟩
      · rw [e]
      · rw [q2]
        show (if f q < f b then some b else some q) = _
        rw [if_pos q3]
    | succ d ih =>
      intro hd
      have ih' := ih (by omega)
      have hd' : (b + 1 + d) + 1 ≤ n := hd
      show fstB f x ((b + 1 + d) + 1) = _
      generalize b + 1 + d = j at ih' hd'
      show (if bt x j then _ else _) = _
      rw [ih']
      by_cases c : bt x j = true
      · rw [if_pos c]
        show (if f b < f j then _ else _) = _
        rw [if_neg (h1 _ (by omega) c)]
      · rw [if_neg c]
  have := high (n - (b + 1)) (by omega)
  rwa [show b + 1 + (n - (b + 1)) = n by omega] at this
theorem nI_ne_m1 {b : Nat} (hb : b < 2 ^ 31) : ¬ nI b = -1 := by
  intro e
  have h1 := nI_toInt hb
  rw [e] at h1
  have h2 : (-1 : Int32).toInt = -1 := by decide +kernel
  omega
section D2
variable {L : Nat} {xs : Nat → Int32} {h : am_H} {c B n v s t : Nat} {D : sg_S} {k : Nat → Int32}
theorem ok_asking (hc : c + 10 < h.1) (hB : B + 31 ≤ 372) (hn : D.1 1 = nI n) (h8 : n ≤ 8) (hs : s < 32) : am_ok L xs m_X5_asking [.ref c, .int (nI B), .int (nI s)] (ob sgD h c (dB D B k)) (some (askL (seg k 1) (contF (seg k 17) (D.2 4) (seg k 9) n s) (k 0) n).1) (ob sgD h c (dB D B (upd k 0 (askL (seg k 1) (contF (seg k 17) (D.2 4) (seg k 9) n s) (k 0) n).2))) := by
  refine en_X5_asking (cD hc) rfl rfl (ch_X5_asking_0 ⟨_, _, ok_contendersD hc hB hn h8 hs, ?_⟩)
  generalize contF (seg k 17) (D.2 4) (seg k 9) n s = C
  have key := up_to (P := fun i => am_wa L xs m_X5_asking (ob sgD h c (dB D B k)) (some (askL (seg k 1) C (k 0) n).1) (ob sgD h c (dB D B (upd k 0 (askL (seg k 1) C (k 0) n).2))) 13 [.ref c, .int (nI B), .null, .int C, .int (askL (seg k 1) C (k 0) i).1, .int (nI i)] [] (ob sgD h c (dB D B (upd k 0 (askL (seg k 1) C (k 0) i).2)))) n ?_ ?_ 0 (by omega)
  · simp only [askL, upd_id] at key
    exact key
  · refine ch_X5_asking_13 ?_
    simp only [cD hc, gD_0 hc, gD_1 hc, gD_2 hc, gD_3 hc, gD_4 hc, gD_5 hc, gD_6 hc, gD_7 hc, gD_8 hc, gD_9 hc, gD_10 hc, gD_11 hc, gD_12 hc, gD_13 hc, gD_14 hc, gD_15 hc, gD_16 hc, gD_17 hc, gD_18 hc, gD_19 hc, pD_1 hc, pD_2 hc, pD_3 hc, pD_5 hc, pD_8 hc, pD_11 hc, pD_12 hc, pD_13 hc, pD_14 hc, pD_15 hc, dB_1, am_b_some, hn]
    rw [if_neg (nI_irr n)]
    (first | exact ⟨fit_i _, rfl, rfl⟩ | exact ⟨fit_i _, rfl, trivial⟩ | exact ⟨fit_i _, trivial, rfl⟩ | exact ⟨fit_i _, trivial, trivial⟩)
  · intro i hi ih
    refine ch_X5_asking_13 ?_
    simp only [cD hc, gD_0 hc, gD_1 hc, gD_2 hc, gD_3 hc, gD_4 hc, gD_5 hc, gD_6 hc, gD_7 hc, gD_8 hc, gD_9 hc, gD_10 hc, gD_11 hc, gD_12 hc, gD_13 hc, gD_14 hc, gD_15 hc, gD_16 hc, gD_17 hc, gD_18 hc, gD_19 hc, pD_1 hc, pD_2 hc, pD_3 hc, pD_5 hc, pD_8 hc, pD_11 hc, pD_12 hc, pD_13 hc, pD_14 hc, pD_15 hc, dB_1, am_b_some, hn]
    rw [if_pos (nI_lt hi (by omega))]
    refine ⟨_, _, ok_hasD (by omega), br2 (fun c1 => ?_) (fun c1 => ?_)⟩
    · rw [bz_ne] at c1
      rw [← nI_succ, show askL (seg k 1) C (k 0) i = askL (seg k 1) C (k 0) (i + 1) by simp [askL, c1]]
      exact ih
    · rw [bz_ne] at c1
      refine ⟨_, _, ok_lot hc hB (by decide +kernel), ?_⟩
      simp only [cD hc, gD_0 hc, gD_1 hc, gD_2 hc, gD_3 hc, gD_4 hc, gD_5 hc, gD_6 hc, gD_7 hc, gD_8 hc, gD_9 hc, gD_10 hc, gD_11 hc, gD_12 hc, gD_13 hc, gD_14 hc, gD_15 hc, gD_16 hc, gD_17 hc, gD_18 hc, gD_19 hc, pD_1 hc, pD_2 hc, pD_3 hc, pD_5 hc, pD_8 hc, pD_11 hc, pD_12 hc, pD_13 hc, pD_14 hc, pD_15 hc, am_b_some, ix1, lS hc hB (show 1 + 8 ≤ 31 by omega) (show i < 8 by omega), upd_at, upd_upd, seg_ne _ 1 0 _ (by omega)]
      refine br2 (fun d => ?_) (fun d => ?_)
      · have e : askL (seg k 1) C (k 0) (i + 1) = ((askL (seg k 1) C (k 0) i).1 ||| (1 : Int32) <<< (nI i &&& 31), lotS (askL (seg k 1) C (k 0) i).2) := by
          show (if _ then _ else _) = _
          rw [if_pos (by simpa using c1), if_pos d]
        rw [e] at ih
        rw [← nI_succ]
        exact ih
      · have e : askL (seg k 1) C (k 0) (i + 1) = ((askL (seg k 1) C (k 0) i).1, lotS (askL (seg k 1) C (k 0) i).2) := by
          show (if _ then _ else _) = _
          rw [if_pos (by simpa using c1), if_neg d]
        rw [e] at ih
        rw [← nI_succ]
        exact ih
theorem ok_first (hc : c + 10 < h.1) (hn : D.1 1 = nI n) (h8 : n ≤ 8) {x : Int32} : am_ok L xs m_X5_first [.ref c, .int x] (ob sgD h c D) (some (fstI (fstB (D.2 18) x n))) (ob sgD h c D) := by
  refine en_X5_first (cD hc) rfl rfl (ch_X5_first_0 ?_)
  have key := up_to (P := fun i => am_wa L xs m_X5_first (ob sgD h c D) (some (fstI (fstB (D.2 18) x n))) (ob sgD h c D) 4 [.ref c, .int x, .int (fstI (fstB (D.2 18) x i)), .int (nI i)] [] (ob sgD h c D)) n ?_ ?_ 0 (by omega)
  · exact key
  · refine ch_X5_first_4 ?_
    simp only [cD hc, gD_0 hc, gD_1 hc, gD_2 hc, gD_3 hc, gD_4 hc, gD_5 hc, gD_6 hc, gD_7 hc, gD_8 hc, gD_9 hc, gD_10 hc, gD_11 hc, gD_12 hc, gD_13 hc, gD_14 hc, gD_15 hc, gD_16 hc, gD_17 hc, gD_18 hc, gD_19 hc, pD_1 hc, pD_2 hc, pD_3 hc, pD_5 hc, pD_8 hc, pD_11 hc, pD_12 hc, pD_13 hc, pD_14 hc, pD_15 hc, am_b_some, hn]
    rw [if_neg (nI_irr n)]
    (first | exact ⟨fit_i _, rfl, rfl⟩ | exact ⟨fit_i _, rfl, trivial⟩ | exact ⟨fit_i _, trivial, rfl⟩ | exact ⟨fit_i _, trivial, trivial⟩)
  · intro i hi ih
    refine ch_X5_first_4 ?_
    simp only [cD hc, gD_0 hc, gD_1 hc, gD_2 hc, gD_3 hc, gD_4 hc, gD_5 hc, gD_6 hc, gD_7 hc, gD_8 hc, gD_9 hc, gD_10 hc, gD_11 hc, gD_12 hc, gD_13 hc, gD_14 hc, gD_15 hc, gD_16 hc, gD_17 hc, gD_18 hc, gD_19 hc, pD_1 hc, pD_2 hc, pD_3 hc, pD_5 hc, pD_8 hc, pD_11 hc, pD_12 hc, pD_13 hc, pD_14 hc, pD_15 hc, am_b_some, hn]
    rw [if_pos (nI_lt hi (by omega))]
    refine ⟨_, _, ok_hasD (by omega), br2 (fun c1 => ?_) (fun c1 => ?_)⟩
    · rw [bz_ne] at c1
      simp only [fstB, c1] at ih
      rw [← nI_succ]
      exact ih
    · rw [bz_ne] at c1
      have ct : bt x i = true := by simpa using c1
      cases hq : fstB (D.2 18) x i with
      | none =>
        rw [if_pos (show fstI none = -1 from rfl)]
        simp only [fstB, ct, if_true, hq] at ih
        rw [← nI_succ]
        exact ih
      | some q =>
        have hq2 := fstB_lt _ _ _ _ hq
        have hq8 : q < 8 := by omega
        rw [if_neg (show ¬ fstI (some q) = -1 from nI_ne_m1 (by omega))]
        simp only [fstI, cD hc, gD_0 hc, gD_1 hc, gD_2 hc, gD_3 hc, gD_4 hc, gD_5 hc, gD_6 hc, gD_7 hc, gD_8 hc, gD_9 hc, gD_10 hc, gD_11 hc, gD_12 hc, gD_13 hc, gD_14 hc, gD_15 hc, gD_16 hc, gD_17 hc, gD_18 hc, gD_19 hc, pD_1 hc, pD_2 hc, pD_3 hc, pD_5 hc, pD_8 hc, pD_11 hc, pD_12 hc, pD_13 hc, pD_14 hc, pD_15 hc, am_b_some, lD_18 hc (show i < 8 by omega), lD_18 hc hq8]
        simp only [fstB, ct, if_true, hq] at ih
        refine br2 (fun d => ?_) (fun d => ?_)
        · rw [if_pos d] at ih
          rw [← nI_succ]
          exact ih
        · rw [if_neg d] at ih
          rw [← nI_succ]
          exact ih
end D2
