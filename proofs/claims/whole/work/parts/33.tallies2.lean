/-! TALLIES: append, reckon, each, all the numbers -/
def tmx (f : Nat → Int32) : Nat → Int32
  | 0 => -1000
  | i + 1 => if tmx f i < f i then f i else tmx f i
def tmn (f : Nat → Int32) : Nat → Int32
  | 0 => 1000
  | i + 1 => if f i < tmn f i then f i else tmn f i
theorem tmx_tgr {f : Nat → Int32} : ∀ k, (∀ i, i < k + 1 → rng (f i)) → tmx f (k + 1) = tgr f k := by
  intro k
  induction k with
  | zero =>
    intro h
    have h1 := (h 0 (by omega)).1
    show (if (-1000 : Int32) < f 0 then f 0 else -1000) = f 0
    have z1 : (-999 : Int32).toInt = -999 := by decide +kernel
    have z2 : (-1000 : Int32).toInt = -1000 := by decide +kernel
    rw [if_pos]
    rw [Int32.lt_iff_toInt_lt] at h1 ⊢
    omega
  | succ k ih =>
    intro h
    show (if tmx f (k + 1) < f (k + 1) then f (k + 1) else tmx f (k + 1)) = _
    rw [ih (fun i hi => h i (by omega))]
    rfl
theorem tmn_tle {f : Nat → Int32} : ∀ k, (∀ i, i < k + 1 → rng (f i)) → tmn f (k + 1) = tle f k := by
  intro k
  induction k with
  | zero =>
    intro h
    have h1 := (h 0 (by omega)).2
    show (if f 0 < (1000 : Int32) then f 0 else 1000) = f 0
    have z1 : (999 : Int32).toInt = 999 := by decide +kernel
    have z2 : (1000 : Int32).toInt = 1000 := by decide +kernel
    rw [if_pos]
    rw [Int32.lt_iff_toInt_lt] at h1 ⊢
    omega
  | succ k ih =>
    intro h
    show (if f (k + 1) < tmn f (k + 1) then f (k + 1) else tmn f (k + 1)) = _
    rw [ih (fun i hi => h i (by omega))]
    rfl
theorem tsum_cong {f g : Nat → Int32} : ∀ k, (∀ i, i < k → f i = g i) → tsum f k = tsum g k := by
  intro k
  induction k with
  | zero => intro _; rfl
  | succ k ih => intro h; show tsum f k + f k = tsum g k + g k; rw [ih (fun i hi => h i (by omega)), h k (by omega)]
theorem tmx_cong {f g : Nat → Int32} : ∀ k, (∀ i, i < k → f i = g i) → tmx f k = tmx g k := by
  intro k
  induction k with
  | zero => intro _; rfl
  | succ k ih => intro h; unfold tmx; rw [ih (fun i hi => h i (by omega)), h k (by omega)]
theorem tmn_cong {f g : Nat → Int32} : ∀ k, (∀ i, i < k → f i = g i) → tmn f k = tmn g k := by
  intro k
  induction k with
  | zero => intro _; rfl
  | succ k ih => intro h; unfold tmn; rw [ih (fun i hi => h i (by omega)), h k (by omega)]
theorem tsw_cong {f g : Nat → Int32} : ∀ k, (∀ i, i < k → f i = g i) → tsw f k = tsw g k := by
  intro k
  induction k with
  | zero => intro _; rfl
  | succ k ih => intro h; unfold tsw; rw [ih (fun i hi => h i (by omega)), h k (by omega)]
section TC
variable {L : Nat} {xs : Nat → Int32} {P : st_P} {S : Nat → sg_S} {h : am_H} {c : Nat} {D : sg_S}
theorem ok_recL (hc : c + 10 < h.1) {t k : Nat} (ht3 : t < 3) (hk : k ≤ 8) (e : D.2 9 t = nI k) {w : Int32} {z : Int32} (hz : z = 50000 + (if w = 0 then tsum (fun i => D.2 10 (8 * t + i)) k else if w = 1 then tmx (fun i => D.2 10 (8 * t + i)) k else if w = 2 then tmn (fun i => D.2 10 (8 * t + i)) k else tsw (fun i => D.2 10 (8 * t + i)) k)) : am_wa L xs m_X5_reckon (ob sgD h c D) (some z) (ob sgD h c D) 79 [.ref c, .int (nI t), .int w, .int 0, .int (-1000), .int 1000, .int 0, .int 0, .null] [] (ob sgD h c D) := by
  have key := up_to (P := fun i => am_wa L xs m_X5_reckon (ob sgD h c D) (some z) (ob sgD h c D) 79 [.ref c, .int (nI t), .int w, .int (tsum (fun i => D.2 10 (8 * t + i)) i), .int (tmx (fun i => D.2 10 (8 * t + i)) i), .int (tmn (fun i => D.2 10 (8 * t + i)) i), .int (tsw (fun i => D.2 10 (8 * t + i)) i), .int (nI i), .null] [] (ob sgD h c D)) k ?_ ?_ 0 (by omega)
  · exact key
  · refine ch_X5_reckon_79 ?_
    simp only [cD hc, gD_0 hc, gD_1 hc, gD_2 hc, gD_3 hc, gD_4 hc, gD_5 hc, gD_6 hc, gD_7 hc, gD_8 hc, gD_9 hc, gD_10 hc, gD_11 hc, gD_12 hc, gD_13 hc, gD_14 hc, gD_15 hc, gD_16 hc, gD_17 hc, gD_18 hc, gD_19 hc, pD_1 hc, pD_2 hc, pD_3 hc, pD_5 hc, pD_8 hc, pD_11 hc, pD_12 hc, pD_13 hc, pD_14 hc, pD_15 hc, am_b_some, lD_9 hc ht3, e]
    rw [if_neg (nI_irr k)]
    refine br2 (fun q => ?_) (fun q => br2 (fun q2 => ?_) (fun q2 => br2 (fun q3 => ?_) (fun q3 => ?_)))
    · rw [if_pos q] at hz; rw [hz]; (first | exact ⟨fit_i _, rfl, rfl⟩ | exact ⟨fit_i _, rfl, trivial⟩ | exact ⟨fit_i _, trivial, rfl⟩ | exact ⟨fit_i _, trivial, trivial⟩)
    · rw [if_neg q, if_pos q2] at hz; rw [hz]; (first | exact ⟨fit_i _, rfl, rfl⟩ | exact ⟨fit_i _, rfl, trivial⟩ | exact ⟨fit_i _, trivial, rfl⟩ | exact ⟨fit_i _, trivial, trivial⟩)
    · rw [if_neg q, if_neg q2, if_pos q3] at hz; rw [hz]; (first | exact ⟨fit_i _, rfl, rfl⟩ | exact ⟨fit_i _, rfl, trivial⟩ | exact ⟨fit_i _, trivial, rfl⟩ | exact ⟨fit_i _, trivial, trivial⟩)
    · rw [if_neg q, if_neg q2, if_neg q3] at hz; rw [hz]; (first | exact ⟨fit_i _, rfl, rfl⟩ | exact ⟨fit_i _, rfl, trivial⟩ | exact ⟨fit_i _, trivial, rfl⟩ | exact ⟨fit_i _, trivial, trivial⟩)
  · intro i hi ih
    refine ch_X5_reckon_79 ?_
    simp only [cD hc, gD_0 hc, gD_1 hc, gD_2 hc, gD_3 hc, gD_4 hc, gD_5 hc, gD_6 hc, gD_7 hc, gD_8 hc, gD_9 hc, gD_10 hc, gD_11 hc, gD_12 hc, gD_13 hc, gD_14 hc, gD_15 hc, gD_16 hc, gD_17 hc, gD_18 hc, gD_19 hc, pD_1 hc, pD_2 hc, pD_3 hc, pD_5 hc, pD_8 hc, pD_11 hc, pD_12 hc, pD_13 hc, pD_14 hc, pD_15 hc, am_b_some, lD_9 hc ht3, e, i8, lD_10 hc (show 8 * t + i < 24 by omega)]
    rw [if_pos (nI_lt hi (by omega))]
    simp only [nI_mod2 (show i < 2 ^ 31 by omega)]
    have two : ¬ (2 : Int32) = 0 := by decide +kernel
    rw [nI_succ i] at ih
    simp only [tsum, tmx, tmn, tsw] at ih
    refine br2 (fun q => ?_) (fun q => ?_)
    · rw [if_pos q] at ih
      refine br2 (fun q2 => ?_) (fun q2 => ?_)
      · rw [if_pos q2] at ih
        refine ⟨two, br2 (fun q3 => ?_) (fun q3 => ?_)⟩
        · rw [if_pos q3] at ih; exact ih
        · rw [if_neg q3] at ih; exact ih
      · rw [if_neg q2] at ih
        refine ⟨two, br2 (fun q3 => ?_) (fun q3 => ?_)⟩
        · rw [if_pos q3] at ih; exact ih
        · rw [if_neg q3] at ih; exact ih
    · rw [if_neg q] at ih
      refine br2 (fun q2 => ?_) (fun q2 => ?_)
      · rw [if_pos q2] at ih
        refine ⟨two, br2 (fun q3 => ?_) (fun q3 => ?_)⟩
        · rw [if_pos q3] at ih; exact ih
        · rw [if_neg q3] at ih; exact ih
      · rw [if_neg q2] at ih
        refine ⟨two, br2 (fun q3 => ?_) (fun q3 => ?_)⟩
        · rw [if_pos q3] at ih; exact ih
        · rw [if_neg q3] at ih; exact ih
theorem not_in4 {b : Int32} (hb : isIn 4 b = false) : b < 0 ∨ (¬ b < 0 ∧ (3 : Int32) < b) := by
  rw [← in4] at hb
  have := of_decide_eq_false hb
  by_cases q : b < 0
  · exact Or.inl q
  · exact Or.inr ⟨q, Classical.byContradiction fun z => this ⟨q, z⟩⟩
theorem not_in3 {b : Int32} (hb : isIn 3 b = false) : b < 0 ∨ (¬ b < 0 ∧ (2 : Int32) < b) := by
  rw [← in3] at hb
  have := of_decide_eq_false hb
  by_cases q : b < 0
  · exact Or.inl q
  · exact Or.inr ⟨q, Classical.byContradiction fun z => this ⟨q, z⟩⟩
theorem both_reckon (hI : INV P S) {a b : Int32} : both L xs P S m_X4_reckon m_X5_reckon [.int a, .int b] := by
  cases ht : isIn 3 a
  · refine both_same hI (x := -2) ?_ (fun h hc => ?_)
    · refine en_X4_reckon k_0 rfl rfl (ch_X4_reckon_0 ⟨_, _, ok_isTallyC, ?_⟩)
      rw [if_pos (nI_no ht)]; (first | exact ⟨fit_i _, rfl, rfl⟩ | exact ⟨fit_i _, rfl, trivial⟩ | exact ⟨fit_i _, trivial, rfl⟩ | exact ⟨fit_i _, trivial, trivial⟩)
    · refine en_X5_reckon (cD hc) rfl rfl (ch_X5_reckon_0 ⟨_, _, ok_isTallyD, ?_⟩)
      rw [if_pos (nI_no ht)]; (first | exact ⟨fit_i _, rfl, rfl⟩ | exact ⟨fit_i _, rfl, trivial⟩ | exact ⟨fit_i _, trivial, rfl⟩ | exact ⟨fit_i _, trivial, trivial⟩)
  · obtain ⟨t, ht3, rfl⟩ := isIn_val (by omega) ht
    cases hb : isIn 4 b
    · have hb' := not_in4 hb
      refine both_same hI (x := -3) ?_ (fun h hc => ?_)
      · refine en_X4_reckon k_0 rfl rfl (ch_X4_reckon_0 ⟨_, _, ok_isTallyC, ?_⟩)
        rw [if_neg (nI_yes ht)]
        rcases hb' with q | ⟨q1, q2⟩
        · rw [if_pos q]; (first | exact ⟨fit_i _, rfl, rfl⟩ | exact ⟨fit_i _, rfl, trivial⟩ | exact ⟨fit_i _, trivial, rfl⟩ | exact ⟨fit_i _, trivial, trivial⟩)
        · rw [if_neg q1, if_pos q2]; (first | exact ⟨fit_i _, rfl, rfl⟩ | exact ⟨fit_i _, rfl, trivial⟩ | exact ⟨fit_i _, trivial, rfl⟩ | exact ⟨fit_i _, trivial, trivial⟩)
      · refine en_X5_reckon (cD hc) rfl rfl (ch_X5_reckon_0 ⟨_, _, ok_isTallyD, ?_⟩)
        rw [if_neg (nI_yes ht)]
        refine ⟨_, _, ok_in, ?_⟩
        rw [in4, if_pos (nI_no hb)]; (first | exact ⟨fit_i _, rfl, rfl⟩ | exact ⟨fit_i _, rfl, trivial⟩ | exact ⟨fit_i _, trivial, rfl⟩ | exact ⟨fit_i _, trivial, trivial⟩)
    · obtain ⟨w, hw, rfl⟩ := isIn_val (by omega) hb
      have q1 : ¬ nI w < 0 := nI_nlt (a := w) (b := 0) (by omega) (by omega)
      have q2 : ¬ (3 : Int32) < nI w := nI_nlt (a := 3) (b := w) (by omega) (by omega)
      obtain ⟨n, m, c, g1, g2, g3, hT, g4⟩ := id hI
      rcases hT t ht3 with ⟨c1, c2, c3⟩ | ⟨c1, k, c2, c3, c4, c5⟩
      · refine both_same hI (x := -11) ?_ (fun h hc => ?_)
        · refine en_X4_reckon k_0 rfl rfl (ch_X4_reckon_0 ⟨_, _, ok_isTallyC, ?_⟩)
          rw [if_neg (nI_yes ht), if_neg q1, if_neg q2]
          simp only [f0_6, a77 ht3, gY_2 ht3, c1, am_b_some]
          rw [if_neg (by decide)]; (first | exact ⟨fit_i _, rfl, rfl⟩ | exact ⟨fit_i _, rfl, trivial⟩ | exact ⟨fit_i _, trivial, rfl⟩ | exact ⟨fit_i _, trivial, trivial⟩)
        · refine en_X5_reckon (cD hc) rfl rfl (ch_X5_reckon_0 ⟨_, _, ok_isTallyD, ?_⟩)
          rw [if_neg (nI_yes ht)]
          refine ⟨_, _, ok_in, ?_⟩
          rw [in4, if_neg (nI_yes hb)]
          simp only [cD hc, gD_0 hc, gD_1 hc, gD_2 hc, gD_3 hc, gD_4 hc, gD_5 hc, gD_6 hc, gD_7 hc, gD_8 hc, gD_9 hc, gD_10 hc, gD_11 hc, gD_12 hc, gD_13 hc, gD_14 hc, gD_15 hc, gD_16 hc, gD_17 hc, gD_18 hc, gD_19 hc, pD_1 hc, pD_2 hc, pD_3 hc, pD_5 hc, pD_8 hc, pD_11 hc, pD_12 hc, pD_13 hc, pD_14 hc, pD_15 hc, am_b_some, lD_9 hc ht3, c3]
          rw [if_pos (by decide +kernel)]; (first | exact ⟨fit_i _, rfl, rfl⟩ | exact ⟨fit_i _, rfl, trivial⟩ | exact ⟨fit_i _, trivial, rfl⟩ | exact ⟨fit_i _, trivial, trivial⟩)
      · have nneg : ¬ nI k < 0 := nI_nlt (a := k) (b := 0) (by omega) (by omega)
        have hw4 : w = 0 ∨ w = 1 ∨ w = 2 ∨ w = 3 := by omega
        have n10 : ¬ nI 1 = nI 0 := by decide +kernel
        have n20 : ¬ nI 2 = nI 0 := by decide +kernel
        have n21 : ¬ nI 2 = nI 1 := by decide +kernel
        have n30 : ¬ nI 3 = nI 0 := by decide +kernel
        have n31 : ¬ nI 3 = nI 1 := by decide +kernel
        have n32 : ¬ nI 3 = nI 2 := by decide +kernel
        have i12 : ∀ b : Int32, decide (¬ b < 1 ∧ ¬ (2 : Int32) < b) = decide (¬ b < 1 ∧ ¬ (2 : Int32) < b) := fun _ => rfl
        have mid : ∀ w, w < 4 → (decide (¬ nI w < (1 : Int32) ∧ ¬ (2 : Int32) < nI w)) = (decide (w = 1 ∨ w = 2)) := by decide +kernel
        by_cases hempty : k = 0 ∧ (w = 1 ∨ w = 2)
        · obtain ⟨rfl, hw2⟩ := hempty
          refine both_same hI (x := -12) ?_ (fun h hc => ?_)
          · refine en_X4_reckon k_0 rfl rfl (ch_X4_reckon_0 ⟨_, _, ok_isTallyC, ?_⟩)
            rw [if_neg (nI_yes ht), if_neg q1, if_neg q2]
            simp only [f0_6, a77 ht3, gY_2 ht3, gY_1 ht3, c1, c3, am_b_some]
            rw [if_pos trivial]
            rcases hw2 with rfl | rfl
            · refine ⟨fun z => absurd z n10, fun _ => ⟨fun _ => ?_, fun z => absurd rfl z⟩⟩
              rw [if_pos (show nI 0 = 0 from rfl)]; (first | exact ⟨fit_i _, rfl, rfl⟩ | exact ⟨fit_i _, rfl, trivial⟩ | exact ⟨fit_i _, trivial, rfl⟩ | exact ⟨fit_i _, trivial, trivial⟩)
            · refine ⟨fun z => absurd z n20, fun _ => ⟨fun z => absurd z n21, fun _ => ⟨fun _ => ?_, fun z => absurd rfl z⟩⟩⟩
              rw [if_pos (show nI 0 = 0 from rfl)]; (first | exact ⟨fit_i _, rfl, rfl⟩ | exact ⟨fit_i _, rfl, trivial⟩ | exact ⟨fit_i _, trivial, rfl⟩ | exact ⟨fit_i _, trivial, trivial⟩)
          · refine en_X5_reckon (cD hc) rfl rfl (ch_X5_reckon_0 ⟨_, _, ok_isTallyD, ?_⟩)
            rw [if_neg (nI_yes ht)]
            refine ⟨_, _, ok_in, ?_⟩
            rw [in4, if_neg (nI_yes hb)]
            simp only [cD hc, gD_0 hc, gD_1 hc, gD_2 hc, gD_3 hc, gD_4 hc, gD_5 hc, gD_6 hc, gD_7 hc, gD_8 hc, gD_9 hc, gD_10 hc, gD_11 hc, gD_12 hc, gD_13 hc, gD_14 hc, gD_15 hc, gD_16 hc, gD_17 hc, gD_18 hc, gD_19 hc, pD_1 hc, pD_2 hc, pD_3 hc, pD_5 hc, pD_8 hc, pD_11 hc, pD_12 hc, pD_13 hc, pD_14 hc, pD_15 hc, am_b_some, lD_9 hc ht3, c4]
            rw [if_neg nneg, if_pos (show nI 0 = 0 from rfl)]
            refine ⟨_, _, ok_in, ?_⟩
            rw [mid w hw, if_neg (nI_yes (decide_eq_true hw2))]; (first | exact ⟨fit_i _, rfl, rfl⟩ | exact ⟨fit_i _, rfl, trivial⟩ | exact ⟨fit_i _, trivial, rfl⟩ | exact ⟨fit_i _, trivial, trivial⟩)
        · refine both_same hI (x := 50000 + (if nI w = 0 then tsum (fun i => (S 16).2 10 (8 * t + i)) k else if nI w = 1 then tmx (fun i => (S 16).2 10 (8 * t + i)) k else if nI w = 2 then tmn (fun i => (S 16).2 10 (8 * t + i)) k else tsw (fun i => (S 16).2 10 (8 * t + i)) k)) ?_ (fun h hc => ?_)
          · refine en_X4_reckon k_0 rfl rfl (ch_X4_reckon_0 ⟨_, _, ok_isTallyC, ?_⟩)
            rw [if_neg (nI_yes ht), if_neg q1, if_neg q2]
            simp only [f0_6, a77 ht3, gY_2 ht3, gY_1 ht3, c1, c3, am_b_some]
            rw [if_pos trivial]
            rcases hw4 with rfl | rfl | rfl | rfl
            · refine ⟨fun _ => ⟨_, _, onY0 ht3 (ok_sum (bY ht3) c3 c2), fit_i _, ?_, ?_⟩, fun z => absurd rfl z⟩
              · rw [if_pos (show nI 0 = 0 from rfl), tsum_cong k (fun i hi => (c5 i hi).1)]
              · first | rfl | trivial
            · obtain ⟨q, rfl⟩ : ∃ q, k = q + 1 := ⟨k - 1, by omega⟩
              refine ⟨fun z => absurd z n10, fun _ => ⟨fun _ => ?_, fun z => absurd rfl z⟩⟩
              rw [if_neg (nI_ne0 (by omega) (by omega))]
              refine ⟨_, _, onY0 ht3 (ok_greatest (bY ht3) c3 c2), fit_i _, ?_, ?_⟩
              · rw [if_neg (show ¬ nI 1 = 0 from n10), if_pos (show nI 1 = 1 from rfl), ← tmx_tgr q (fun i hi => (c5 i hi).2), tmx_cong (q + 1) (fun i hi => (c5 i hi).1)]
              · first | rfl | trivial
            · obtain ⟨q, rfl⟩ : ∃ q, k = q + 1 := ⟨k - 1, by omega⟩
              refine ⟨fun z => absurd z n20, fun _ => ⟨fun z => absurd z n21, fun _ => ⟨fun _ => ?_, fun z => absurd rfl z⟩⟩⟩
              rw [if_neg (nI_ne0 (by omega) (by omega))]
              refine ⟨_, _, onY0 ht3 (ok_least (bY ht3) c3 c2), fit_i _, ?_, ?_⟩
              · rw [if_neg (show ¬ nI 2 = 0 from n20), if_neg (show ¬ nI 2 = 1 from n21), if_pos (show nI 2 = 2 from rfl), ← tmn_tle q (fun i hi => (c5 i hi).2), tmn_cong (q + 1) (fun i hi => (c5 i hi).1)]
              · first | rfl | trivial
            · refine ⟨fun z => absurd z n30, fun _ => ⟨fun z => absurd z n31, fun _ => ⟨fun z => absurd z n32, fun _ => ?_⟩⟩⟩
              refine ⟨_, _, onY0 ht3 (ok_swing (bY ht3) c3 c2), fit_i _, ?_, ?_⟩
              · rw [if_neg (show ¬ nI 3 = 0 from n30), if_neg (show ¬ nI 3 = 1 from n31), if_neg (show ¬ nI 3 = 2 from n32), tsw_cong k (fun i hi => (c5 i hi).1)]
              · first | rfl | trivial
          · refine en_X5_reckon (cD hc) rfl rfl (ch_X5_reckon_0 ⟨_, _, ok_isTallyD, ?_⟩)
            rw [if_neg (nI_yes ht)]
            refine ⟨_, _, ok_in, ?_⟩
            rw [in4, if_neg (nI_yes hb)]
            simp only [cD hc, gD_0 hc, gD_1 hc, gD_2 hc, gD_3 hc, gD_4 hc, gD_5 hc, gD_6 hc, gD_7 hc, gD_8 hc, gD_9 hc, gD_10 hc, gD_11 hc, gD_12 hc, gD_13 hc, gD_14 hc, gD_15 hc, gD_16 hc, gD_17 hc, gD_18 hc, gD_19 hc, pD_1 hc, pD_2 hc, pD_3 hc, pD_5 hc, pD_8 hc, pD_11 hc, pD_12 hc, pD_13 hc, pD_14 hc, pD_15 hc, am_b_some, lD_9 hc ht3, c4]
            rw [if_neg nneg]
            refine br2 (fun q => ?_) (fun q => ?_)
            · have hk0 : k = 0 := by
                have := (nI_eq (a := k) (b := 0) (by omega) (by omega)).mp q
                exact this
              refine ⟨_, _, ok_in, ?_⟩
              rw [mid w hw, if_pos (nI_no (decide_eq_false (fun z => hempty ⟨hk0, z⟩)))]
              exact ok_recL hc ht3 c2 c4 rfl
            · exact ok_recL hc ht3 c2 c4 rfl
theorem nums_all (hI : INV P S) : ∃ z, am_ok L xs m_X4_numbersOfAll [.ref 0] (HP P S) (some z) (HP P S) ∧ ∀ h : am_H, 98 + 10 < h.1 → am_ok L xs m_X5_allNumbers [.ref 98] (ob sgD h 98 (S 16)) (some z) (ob sgD h 98 (S 16)) := by
  obtain ⟨n, m, c, g1, g2, g3, hT, g4⟩ := id hI
  refine ⟨tsum (fun t => (S (13 + t)).1 1) 3, ?_, fun h hc => ?_⟩
  · refine en_X4_numbersOfAll k_0 rfl rfl (ch_X4_numbersOfAll_0 ?_)
    have key := up_to (P := fun i => am_wa L xs m_X4_numbersOfAll (HP P S) (some (tsum (fun t => (S (13 + t)).1 1) 3)) (HP P S) 4 [.ref 0, .int (tsum (fun t => (S (13 + t)).1 1) i), .int (nI i)] [] (HP P S)) 3 ?_ ?_ 0 (by omega)
    · exact key
    · refine ch_X4_numbersOfAll_4 ?_
      rw [if_neg (by decide +kernel)]; (first | exact ⟨fit_i _, rfl, rfl⟩ | exact ⟨fit_i _, rfl, trivial⟩ | exact ⟨fit_i _, trivial, rfl⟩ | exact ⟨fit_i _, trivial, trivial⟩)
    · intro i hi ih
      refine ch_X4_numbersOfAll_4 ?_
      rw [if_pos (show nI i < 3 from nI_lt (b := 3) hi (by omega))]
      simp only [f0_6, a77 hi, gY_1 hi, am_b_some]
      rw [← nI_succ]
      exact ih
  · refine en_X5_allNumbers (cD hc) rfl rfl (ch_X5_allNumbers_0 ?_)
    have key := up_to (P := fun i => am_wa L xs m_X5_allNumbers (ob sgD h 98 (S 16)) (some (tsum (fun t => (S (13 + t)).1 1) 3)) (ob sgD h 98 (S 16)) 4 [.ref 98, .int (tsum (fun t => (S (13 + t)).1 1) i), .int (nI i)] [] (ob sgD h 98 (S 16))) 3 ?_ ?_ 0 (by omega)
    · exact key
    · refine ch_X5_allNumbers_4 ?_
      rw [if_neg (by decide +kernel)]; (first | exact ⟨fit_i _, rfl, rfl⟩ | exact ⟨fit_i _, rfl, trivial⟩ | exact ⟨fit_i _, trivial, rfl⟩ | exact ⟨fit_i _, trivial, trivial⟩)
    · intro i hi ih
      refine ch_X5_allNumbers_4 ?_
      rw [if_pos (show nI i < 3 from nI_lt (b := 3) hi (by omega))]
      rcases hT i hi with ⟨c1, c2, c3⟩ | ⟨c1, k, c2, c3, c4, c5⟩
      · simp only [cD hc, gD_0 hc, gD_1 hc, gD_2 hc, gD_3 hc, gD_4 hc, gD_5 hc, gD_6 hc, gD_7 hc, gD_8 hc, gD_9 hc, gD_10 hc, gD_11 hc, gD_12 hc, gD_13 hc, gD_14 hc, gD_15 hc, gD_16 hc, gD_17 hc, gD_18 hc, gD_19 hc, pD_1 hc, pD_2 hc, pD_3 hc, pD_5 hc, pD_8 hc, pD_11 hc, pD_12 hc, pD_13 hc, pD_14 hc, pD_15 hc, am_b_some, lD_9 hc hi, c3]
        rw [if_pos (by decide +kernel), ← nI_succ]
        simp only [tsum, c2] at ih
        exact ih
      · simp only [cD hc, gD_0 hc, gD_1 hc, gD_2 hc, gD_3 hc, gD_4 hc, gD_5 hc, gD_6 hc, gD_7 hc, gD_8 hc, gD_9 hc, gD_10 hc, gD_11 hc, gD_12 hc, gD_13 hc, gD_14 hc, gD_15 hc, gD_16 hc, gD_17 hc, gD_18 hc, gD_19 hc, pD_1 hc, pD_2 hc, pD_3 hc, pD_5 hc, pD_8 hc, pD_11 hc, pD_12 hc, pD_13 hc, pD_14 hc, pD_15 hc, am_b_some, lD_9 hc hi, c4]
        rw [if_neg (show ¬ nI k < 0 from nI_nlt (a := k) (b := 0) (by omega) (by omega)), ← nI_succ]
        simp only [tsum, c3] at ih
        exact ih
end TC
