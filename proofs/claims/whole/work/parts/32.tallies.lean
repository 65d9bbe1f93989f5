/-! TALLIES: both -/
theorem rng_neg {x : Int32} (h : rng x) : rng (-x) := by
  have z1 : (-999 : Int32).toInt = -999 := by decide +kernel
  have z2 : (999 : Int32).toInt = 999 := by decide +kernel
  have h1 := h.1
  have h2 := h.2
  rw [Int32.lt_iff_toInt_lt] at h1 h2
  rw [z1] at h1
  rw [z2] at h2
  have e : (-x).toInt = -x.toInt := fb_negI (by omega)
  refine ⟨?_, ?_⟩
  · rw [Int32.lt_iff_toInt_lt, e, z1]; omega
  · rw [Int32.lt_iff_toInt_lt, e, z2]; omega
theorem rng_held (x : Int32) : rng (heldF x) := by
  have z1 : (-999 : Int32).toInt = -999 := by decide +kernel
  have z2 : (999 : Int32).toInt = 999 := by decide +kernel
  unfold heldF
  by_cases c : x < 999
  · rw [if_pos c]
    by_cases d : (-999 : Int32) < x
    · rw [if_pos d]
      rw [Int32.lt_iff_toInt_lt] at c d
      refine ⟨?_, ?_⟩
      · rw [Int32.lt_iff_toInt_lt]; omega
      · rw [Int32.lt_iff_toInt_lt]; omega
    · rw [if_neg d]
      exact ⟨by decide +kernel, by decide +kernel⟩
  · rw [if_neg c, if_pos (by decide +kernel)]
    exact ⟨by decide +kernel, by decide +kernel⟩
section TB
variable {L : Nat} {xs : Nat → Int32} {P : st_P} {S : Nat → sg_S} {h : am_H}
theorem ok_heldD {a : Int32} : am_ok L xs m_X5_held [.int a] h (some (heldF a)) h := by
  refine en_X5_held rfl rfl (ch_X5_held_0 ?_)
  have z1 : (-999 : Int32).toInt = -999 := by decide +kernel
  have z2 : (999 : Int32).toInt = 999 := by decide +kernel
  refine br2 (fun c => ?_) (fun c => br2 (fun d => ?_) (fun d => ?_))
  · rw [show heldF a = 999 by
      have q : ¬ a < 999 := fun z => by rw [Int32.lt_iff_toInt_lt] at c z; omega
      unfold heldF
      rw [if_neg q, if_pos (by decide +kernel)]]
    (first | exact ⟨fit_i _, rfl, rfl⟩ | exact ⟨fit_i _, rfl, trivial⟩ | exact ⟨fit_i _, trivial, rfl⟩ | exact ⟨fit_i _, trivial, trivial⟩)
  · rw [show heldF a = -999 by
      have q : a < 999 := by rw [Int32.lt_iff_toInt_lt] at d ⊢; omega
      have q2 : ¬ (-999 : Int32) < a := fun z => by rw [Int32.lt_iff_toInt_lt] at d z; omega
      unfold heldF
      rw [if_pos q, if_neg q2]]
    (first | exact ⟨fit_i _, rfl, rfl⟩ | exact ⟨fit_i _, rfl, trivial⟩ | exact ⟨fit_i _, trivial, rfl⟩ | exact ⟨fit_i _, trivial, trivial⟩)
  · rw [show heldF a = a by
      unfold heldF
      rw [Int32.lt_iff_toInt_lt] at c d
      by_cases q : a < 999
      · rw [if_pos q]
        by_cases q2 : (-999 : Int32) < a
        · rw [if_pos q2]
        · rw [if_neg q2]
          rw [Int32.lt_iff_toInt_lt] at q2
          exact Int32.toInt_inj.mp (by omega)
      · rw [if_neg q, if_pos (by decide +kernel)]
        rw [Int32.lt_iff_toInt_lt] at q
        exact Int32.toInt_inj.mp (by omega)]
    (first | exact ⟨fit_i _, rfl, rfl⟩ | exact ⟨fit_i _, rfl, trivial⟩ | exact ⟨fit_i _, trivial, rfl⟩ | exact ⟨fit_i _, trivial, trivial⟩)
theorem both_drop (hI : INV P S) {a : Int32} : both L xs P S m_X4_drop m_X5_drop [.int a] := by
  cases ht : isIn 3 a
  · refine both_same hI (x := -2) ?_ (fun h hc => ?_)
    · refine en_X4_drop k_0 rfl rfl (ch_X4_drop_0 ⟨_, _, ok_isTallyC, ?_⟩)
      rw [if_pos (nI_no ht)]; (first | exact ⟨fit_i _, rfl, rfl⟩ | exact ⟨fit_i _, rfl, trivial⟩ | exact ⟨fit_i _, trivial, rfl⟩ | exact ⟨fit_i _, trivial, trivial⟩)
    · refine en_X5_drop (cD hc) rfl rfl (ch_X5_drop_0 ⟨_, _, ok_isTallyD, ?_⟩)
      rw [if_pos (nI_no ht)]; (first | exact ⟨fit_i _, rfl, rfl⟩ | exact ⟨fit_i _, rfl, trivial⟩ | exact ⟨fit_i _, trivial, rfl⟩ | exact ⟨fit_i _, trivial, trivial⟩)
  · obtain ⟨t, ht3, rfl⟩ := isIn_val (by omega) ht
    obtain ⟨n, m, c, g1, g2, g3, hT, g4⟩ := id hI
    rcases hT t ht3 with ⟨c1, c2, c3⟩ | ⟨c1, k, c2, c3, c4, c5⟩
    · refine both_same hI (x := -11) ?_ (fun h hc => ?_)
      · refine en_X4_drop k_0 rfl rfl (ch_X4_drop_0 ⟨_, _, ok_isTallyC, ?_⟩)
        rw [if_neg (nI_yes ht)]
        simp only [f0_6, a77 ht3, gY_2 ht3, c1, am_b_some]
        rw [if_neg (by decide)]; (first | exact ⟨fit_i _, rfl, rfl⟩ | exact ⟨fit_i _, rfl, trivial⟩ | exact ⟨fit_i _, trivial, rfl⟩ | exact ⟨fit_i _, trivial, trivial⟩)
      · refine en_X5_drop (cD hc) rfl rfl (ch_X5_drop_0 ⟨_, _, ok_isTallyD, ?_⟩)
        rw [if_neg (nI_yes ht)]
        simp only [cD hc, gD_0 hc, gD_1 hc, gD_2 hc, gD_3 hc, gD_4 hc, gD_5 hc, gD_6 hc, gD_7 hc, gD_8 hc, gD_9 hc, gD_10 hc, gD_11 hc, gD_12 hc, gD_13 hc, gD_14 hc, gD_15 hc, gD_16 hc, gD_17 hc, gD_18 hc, gD_19 hc, pD_1 hc, pD_2 hc, pD_3 hc, pD_5 hc, pD_8 hc, pD_11 hc, pD_12 hc, pD_13 hc, pD_14 hc, pD_15 hc, am_b_some, lD_9 hc ht3, sD_9 hc ht3, c3]
        rw [if_pos (by decide +kernel)]
        refine ⟨fit_i _, trivial, ?_⟩
        rw [← c3, upd_id, vu_id]
    · have hv := INV_tally (T := (upd (upd (S (13 + t)).1 2 1) 1 0, (S (13 + t)).2)) (f := upd ((S 16).2 9) t (-1)) (g := (S 16).2 10) ht3 hI (fun s hs q => ⟨upd_ne _ _ q, fun _ _ => rfl⟩) (Or.inl ⟨rfl, rfl, upd_at _ _ _⟩)
      refine both_of (x := nI k) hv (vu_ne _ _ (by omega)) ?_ (fun h hc => ?_)
      · refine en_X4_drop k_0 HP_12 HP_22 (ch_X4_drop_0 ⟨_, _, ok_isTallyC, ?_⟩)
        rw [if_neg (nI_yes ht)]
        simp only [f0_6, a77 ht3, gY_2 ht3, gY_1 ht3, c1, c3, am_b_some]
        rw [if_pos trivial]
        refine ⟨_, onY ht3 (ok_lose (bY ht3)), ?_⟩
        (first | exact ⟨fit_i _, rfl, rfl⟩ | exact ⟨fit_i _, rfl, trivial⟩ | exact ⟨fit_i _, trivial, rfl⟩ | exact ⟨fit_i _, trivial, trivial⟩)
      · refine en_X5_drop (cD hc) rfl rfl (ch_X5_drop_0 ⟨_, _, ok_isTallyD, ?_⟩)
        rw [if_neg (nI_yes ht)]
        simp only [cD hc, gD_0 hc, gD_1 hc, gD_2 hc, gD_3 hc, gD_4 hc, gD_5 hc, gD_6 hc, gD_7 hc, gD_8 hc, gD_9 hc, gD_10 hc, gD_11 hc, gD_12 hc, gD_13 hc, gD_14 hc, gD_15 hc, gD_16 hc, gD_17 hc, gD_18 hc, gD_19 hc, pD_1 hc, pD_2 hc, pD_3 hc, pD_5 hc, pD_8 hc, pD_11 hc, pD_12 hc, pD_13 hc, pD_14 hc, pD_15 hc, am_b_some, lD_9 hc ht3, sD_9 hc ht3, c4]
        rw [if_neg (show ¬ nI k < 0 from nI_nlt (a := k) (b := 0) (by omega) (by omega))]
        refine ⟨fit_i _, trivial, ?_⟩
        rw [w10i]
theorem both_tally (hI : INV P S) {a b c d e : Int32} : both L xs P S m_X4_tally m_X5_tally [.int a, .int b, .int c, .int d, .int e] := by
  cases ht : isIn 3 a
  · refine both_same hI (x := -2) ?_ (fun h hc => ?_)
    · refine en_X4_tally k_0 rfl rfl (ch_X4_tally_0 ⟨_, _, ok_isTallyC, ?_⟩)
      rw [if_pos (nI_no ht)]; (first | exact ⟨fit_i _, rfl, rfl⟩ | exact ⟨fit_i _, rfl, trivial⟩ | exact ⟨fit_i _, trivial, rfl⟩ | exact ⟨fit_i _, trivial, trivial⟩)
    · refine en_X5_tally (cD hc) rfl rfl (ch_X5_tally_0 ⟨_, _, ok_isTallyD, ?_⟩)
      rw [if_pos (nI_no ht)]; (first | exact ⟨fit_i _, rfl, rfl⟩ | exact ⟨fit_i _, rfl, trivial⟩ | exact ⟨fit_i _, trivial, rfl⟩ | exact ⟨fit_i _, trivial, trivial⟩)
  · obtain ⟨t, ht3, rfl⟩ := isIn_val (by omega) ht
    cases hb : isIn 4 b
    · have hb' : b < 0 ∨ (¬ b < 0 ∧ (3 : Int32) < b) := by
        rw [← in4] at hb
        have := of_decide_eq_false hb
        by_cases q : b < 0
        · exact Or.inl q
        · exact Or.inr ⟨q, Classical.byContradiction fun z => this ⟨q, z⟩⟩
      refine both_same hI (x := -3) ?_ (fun h hc => ?_)
      · refine en_X4_tally k_0 rfl rfl (ch_X4_tally_0 ⟨_, _, ok_isTallyC, ?_⟩)
        rw [if_neg (nI_yes ht)]
        rcases hb' with q | ⟨q1, q2⟩
        · rw [if_pos q]; (first | exact ⟨fit_i _, rfl, rfl⟩ | exact ⟨fit_i _, rfl, trivial⟩ | exact ⟨fit_i _, trivial, rfl⟩ | exact ⟨fit_i _, trivial, trivial⟩)
        · rw [if_neg q1, if_pos q2]; (first | exact ⟨fit_i _, rfl, rfl⟩ | exact ⟨fit_i _, rfl, trivial⟩ | exact ⟨fit_i _, trivial, rfl⟩ | exact ⟨fit_i _, trivial, trivial⟩)
      · refine en_X5_tally (cD hc) rfl rfl (ch_X5_tally_0 ⟨_, _, ok_isTallyD, ?_⟩)
        rw [if_neg (nI_yes ht)]
        refine ⟨_, _, ok_in, ?_⟩
        rw [in4, if_pos (nI_no hb)]; (first | exact ⟨fit_i _, rfl, rfl⟩ | exact ⟨fit_i _, rfl, trivial⟩ | exact ⟨fit_i _, trivial, rfl⟩ | exact ⟨fit_i _, trivial, trivial⟩)
    · obtain ⟨w, hw, rfl⟩ := isIn_val (by omega) hb
      have q1 : ¬ nI w < 0 := nI_nlt (a := w) (b := 0) (by omega) (by omega)
      have q2 : ¬ (3 : Int32) < nI w := nI_nlt (a := 3) (b := w) (by omega) (by omega)
      by_cases hr : rngb c = true ∧ rngb d = true ∧ rngb e = true
      · obtain ⟨r1, r2, r3⟩ := hr
        have hv := INV_tally (T := (upd (upd (S (13 + t)).1 2 0) 1 (nI w), va_up (S (13 + t)).2 0 (upd (upd (upd ((S (13 + t)).2 0) 0 c) 1 d) 2 e))) (f := upd ((S 16).2 9) t (nI w)) (g := upd (upd (upd ((S 16).2 10) (8 * t) c) (8 * t + 1) d) (8 * t + 2) e) ht3 hI (fun s hs q => ⟨upd_ne _ _ q, fun i hi => by rw [upd_ne _ _ (by omega), upd_ne _ _ (by omega), upd_ne _ _ (by omega)]⟩) (Or.inr ⟨rfl, w, by omega, rfl, upd_at _ _ _, fun i hi => ?_⟩)
        · refine both_of (x := nI w) hv (vu_ne _ _ (by omega)) ?_ (fun h hc => ?_)
          · refine en_X4_tally k_0 HP_12 HP_22 (ch_X4_tally_0 ⟨_, _, ok_isTallyC, ?_⟩)
            rw [if_neg (nI_yes ht), if_neg q1, if_neg q2]
            refine ⟨_, _, ok_isNumC, ?_⟩
            rw [if_neg (nI_yes r1)]
            refine ⟨_, _, ok_isNumC, ?_⟩
            rw [if_neg (nI_yes r2)]
            refine ⟨_, _, ok_isNumC, ?_⟩
            rw [if_neg (nI_yes r3)]
            simp only [f0_6, a77 ht3, am_b_some]
            refine ⟨_, onY ht3 (ok_beginT (bY ht3)), ?_⟩
            simp only [f0_6, a77 ht3, gY_1 ht3, am_b_some, vu_at, upd_at]
            (first | exact ⟨fit_i _, rfl, rfl⟩ | exact ⟨fit_i _, rfl, trivial⟩ | exact ⟨fit_i _, trivial, rfl⟩ | exact ⟨fit_i _, trivial, trivial⟩)
          · refine en_X5_tally (cD hc) rfl rfl (ch_X5_tally_0 ⟨_, _, ok_isTallyD, ?_⟩)
            rw [if_neg (nI_yes ht)]
            refine ⟨_, _, ok_in, ?_⟩
            rw [in4, if_neg (nI_yes hb)]
            refine ⟨_, _, ok_isNumD, ?_⟩
            rw [if_neg (nI_yes r1)]
            refine ⟨_, _, ok_isNumD, ?_⟩
            rw [if_neg (nI_yes r2)]
            refine ⟨_, _, ok_isNumD, ?_⟩
            rw [if_neg (nI_yes r3)]
            simp only [cD hc, gD_0 hc, gD_1 hc, gD_2 hc, gD_3 hc, gD_4 hc, gD_5 hc, gD_6 hc, gD_7 hc, gD_8 hc, gD_9 hc, gD_10 hc, gD_11 hc, gD_12 hc, gD_13 hc, gD_14 hc, gD_15 hc, gD_16 hc, gD_17 hc, gD_18 hc, gD_19 hc, pD_1 hc, pD_2 hc, pD_3 hc, pD_5 hc, pD_8 hc, pD_11 hc, pD_12 hc, pD_13 hc, pD_14 hc, pD_15 hc, am_b_some, sD_9 hc ht3, i80, i8c, i8d, sD_10 hc (show 8 * t < 24 by omega), sD_10 hc (show 8 * t + 1 < 24 by omega), sD_10 hc (show 8 * t + 2 < 24 by omega), vu_at, vu_vu, vu_ne _ _ (show ¬ 10 = 9 by omega)]
            (first | exact ⟨fit_i _, rfl, rfl⟩ | exact ⟨fit_i _, rfl, trivial⟩ | exact ⟨fit_i _, trivial, rfl⟩ | exact ⟨fit_i _, trivial, trivial⟩)
        · have hi3 : i = 0 ∨ i = 1 ∨ i = 2 := by omega
          rcases hi3 with rfl | rfl | rfl
          · refine ⟨?_, rngb_of r1⟩
            show c = _
            rw [upd_ne _ _ (by omega), upd_ne _ _ (by omega), Nat.add_zero, upd_at]
          · refine ⟨?_, rngb_of r2⟩
            show d = _
            rw [upd_ne _ _ (by omega), upd_at]
          · refine ⟨?_, rngb_of r3⟩
            show e = _
            rw [upd_at]
      · have hr' : rngb c = false ∨ (rngb c = true ∧ (rngb d = false ∨ (rngb d = true ∧ rngb e = false))) := by
          cases e1 : rngb c
          · exact Or.inl rfl
          · refine Or.inr ⟨rfl, ?_⟩
            cases e2 : rngb d
            · exact Or.inl rfl
            · refine Or.inr ⟨rfl, ?_⟩
              cases e3 : rngb e
              · rfl
              · exact absurd ⟨e1, e2, e3⟩ hr
        refine both_same hI (x := -3) ?_ (fun h hc => ?_)
        · refine en_X4_tally k_0 rfl rfl (ch_X4_tally_0 ⟨_, _, ok_isTallyC, ?_⟩)
          rw [if_neg (nI_yes ht), if_neg q1, if_neg q2]
          refine ⟨_, _, ok_isNumC, ?_⟩
          rcases hr' with r1 | ⟨r1, r2 | ⟨r2, r3⟩⟩
          · rw [if_pos (nI_no r1)]; (first | exact ⟨fit_i _, rfl, rfl⟩ | exact ⟨fit_i _, rfl, trivial⟩ | exact ⟨fit_i _, trivial, rfl⟩ | exact ⟨fit_i _, trivial, trivial⟩)
          · rw [if_neg (nI_yes r1)]
            refine ⟨_, _, ok_isNumC, ?_⟩
            rw [if_pos (nI_no r2)]; (first | exact ⟨fit_i _, rfl, rfl⟩ | exact ⟨fit_i _, rfl, trivial⟩ | exact ⟨fit_i _, trivial, rfl⟩ | exact ⟨fit_i _, trivial, trivial⟩)
          · rw [if_neg (nI_yes r1)]
            refine ⟨_, _, ok_isNumC, ?_⟩
            rw [if_neg (nI_yes r2)]
            refine ⟨_, _, ok_isNumC, ?_⟩
            rw [if_pos (nI_no r3)]; (first | exact ⟨fit_i _, rfl, rfl⟩ | exact ⟨fit_i _, rfl, trivial⟩ | exact ⟨fit_i _, trivial, rfl⟩ | exact ⟨fit_i _, trivial, trivial⟩)
        · refine en_X5_tally (cD hc) rfl rfl (ch_X5_tally_0 ⟨_, _, ok_isTallyD, ?_⟩)
          rw [if_neg (nI_yes ht)]
          refine ⟨_, _, ok_in, ?_⟩
          rw [in4, if_neg (nI_yes hb)]
          refine ⟨_, _, ok_isNumD, ?_⟩
          rcases hr' with r1 | ⟨r1, r2 | ⟨r2, r3⟩⟩
          · rw [if_pos (nI_no r1)]; (first | exact ⟨fit_i _, rfl, rfl⟩ | exact ⟨fit_i _, rfl, trivial⟩ | exact ⟨fit_i _, trivial, rfl⟩ | exact ⟨fit_i _, trivial, trivial⟩)
          · rw [if_neg (nI_yes r1)]
            refine ⟨_, _, ok_isNumD, ?_⟩
            rw [if_pos (nI_no r2)]; (first | exact ⟨fit_i _, rfl, rfl⟩ | exact ⟨fit_i _, rfl, trivial⟩ | exact ⟨fit_i _, trivial, rfl⟩ | exact ⟨fit_i _, trivial, trivial⟩)
          · rw [if_neg (nI_yes r1)]
            refine ⟨_, _, ok_isNumD, ?_⟩
            rw [if_neg (nI_yes r2)]
            refine ⟨_, _, ok_isNumD, ?_⟩
            rw [if_pos (nI_no r3)]; (first | exact ⟨fit_i _, rfl, rfl⟩ | exact ⟨fit_i _, rfl, trivial⟩ | exact ⟨fit_i _, trivial, rfl⟩ | exact ⟨fit_i _, trivial, trivial⟩)
end TB
