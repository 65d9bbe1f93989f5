/-! TALLIES: each, append -/
def eaG (v : Nat → Int32) (w : Int32) (i : Nat) : Int32 := if w = 0 then -v i else heldF (if w = 1 then 2 * v i else tsum v (i + 1))
section TE
variable {L : Nat} {xs : Nat → Int32} {P : st_P} {S : Nat → sg_S} {h : am_H} {c : Nat} {D : sg_S}
theorem ok_eaL (hc : c + 10 < h.1) {t k : Nat} (ht3 : t < 3) (hk : k ≤ 8) (e : D.2 9 t = nI k) {w : Int32} : am_wa L xs m_X5_each (ob sgD h c D) (some (nI k)) (ob sgD h c (D.1, va_up D.2 10 (fb_put (D.2 10) (eaG (fun i => D.2 10 (8 * t + i)) w) (8 * t) k))) 45 [.ref c, .int (nI t), .int w, .int 0, .int (8 * nI t), .null] [] (ob sgD h c D) := by
  have key := up_to (P := fun i => am_wa L xs m_X5_each (ob sgD h c D) (some (nI k)) (ob sgD h c (D.1, va_up D.2 10 (fb_put (D.2 10) (eaG (fun i => D.2 10 (8 * t + i)) w) (8 * t) k))) 45 [.ref c, .int (nI t), .int w, .int (tsum (fun i => D.2 10 (8 * t + i)) i), .int (nI (8 * t + i)), .null] [] (ob sgD h c (D.1, va_up D.2 10 (fb_put (D.2 10) (eaG (fun i => D.2 10 (8 * t + i)) w) (8 * t) i)))) k ?_ ?_ 0 (by omega)
  · rw [fb_put_0, vu_id] at key
    rw [i80]
    exact key
  · refine ch_X5_each_45 ?_
    simp only [cD hc, gD_0 hc, gD_1 hc, gD_2 hc, gD_3 hc, gD_4 hc, gD_5 hc, gD_6 hc, gD_7 hc, gD_8 hc, gD_9 hc, gD_10 hc, gD_11 hc, gD_12 hc, gD_13 hc, gD_14 hc, gD_15 hc, gD_16 hc, gD_17 hc, gD_18 hc, gD_19 hc, pD_1 hc, pD_2 hc, pD_3 hc, pD_5 hc, pD_8 hc, pD_11 hc, pD_12 hc, pD_13 hc, pD_14 hc, pD_15 hc, am_b_some, lD_9 hc ht3, vu_ne _ _ (show ¬ 9 = 10 by omega), e, i8]
    rw [if_neg (nI_irr _)]
    (first | exact ⟨fit_i _, rfl, rfl⟩ | exact ⟨fit_i _, rfl, trivial⟩ | exact ⟨fit_i _, trivial, rfl⟩ | exact ⟨fit_i _, trivial, trivial⟩)
  · intro i hi ih
    refine ch_X5_each_45 ?_
    simp only [cD hc, gD_0 hc, gD_1 hc, gD_2 hc, gD_3 hc, gD_4 hc, gD_5 hc, gD_6 hc, gD_7 hc, gD_8 hc, gD_9 hc, gD_10 hc, gD_11 hc, gD_12 hc, gD_13 hc, gD_14 hc, gD_15 hc, gD_16 hc, gD_17 hc, gD_18 hc, gD_19 hc, pD_1 hc, pD_2 hc, pD_3 hc, pD_5 hc, pD_8 hc, pD_11 hc, pD_12 hc, pD_13 hc, pD_14 hc, pD_15 hc, am_b_some, lD_9 hc ht3, vu_ne _ _ (show ¬ 9 = 10 by omega), e, i8, lD_10 hc (show 8 * t + i < 24 by omega), sD_10 hc (show 8 * t + i < 24 by omega), vu_at, vu_vu]
    rw [if_pos (nI_lt (by omega) (by omega)), fb_put_out (by omega)]
    rw [← fb_put_succ (D.2 10) (eaG (fun i => D.2 10 (8 * t + i)) w) (8 * t) i, show 8 * t + (i + 1) = 8 * t + i + 1 by omega, nI_succ] at ih
    refine br2 (fun q => ?_) (fun q => br2 (fun q2 => ⟨_, _, ok_heldD, ?_⟩) (fun q2 => ⟨_, _, ok_heldD, ?_⟩))
    · rw [show eaG (fun i => D.2 10 (8 * t + i)) w i = -D.2 10 (8 * t + i) by unfold eaG; rw [if_pos q]] at ih
      exact ih
    · rw [show eaG (fun i => D.2 10 (8 * t + i)) w i = heldF (2 * D.2 10 (8 * t + i)) by unfold eaG; rw [if_neg q, if_pos q2]] at ih
      simp only [cD hc, gD_0 hc, gD_1 hc, gD_2 hc, gD_3 hc, gD_4 hc, gD_5 hc, gD_6 hc, gD_7 hc, gD_8 hc, gD_9 hc, gD_10 hc, gD_11 hc, gD_12 hc, gD_13 hc, gD_14 hc, gD_15 hc, gD_16 hc, gD_17 hc, gD_18 hc, gD_19 hc, pD_1 hc, pD_2 hc, pD_3 hc, pD_5 hc, pD_8 hc, pD_11 hc, pD_12 hc, pD_13 hc, pD_14 hc, pD_15 hc, am_b_some, sD_10 hc (show 8 * t + i < 24 by omega), vu_at, vu_vu]
      exact ih
    · rw [show eaG (fun i => D.2 10 (8 * t + i)) w i = heldF (tsum (fun i => D.2 10 (8 * t + i)) i + D.2 10 (8 * t + i)) by unfold eaG; rw [if_neg q, if_neg q2]; rfl] at ih
      simp only [cD hc, gD_0 hc, gD_1 hc, gD_2 hc, gD_3 hc, gD_4 hc, gD_5 hc, gD_6 hc, gD_7 hc, gD_8 hc, gD_9 hc, gD_10 hc, gD_11 hc, gD_12 hc, gD_13 hc, gD_14 hc, gD_15 hc, gD_16 hc, gD_17 hc, gD_18 hc, gD_19 hc, pD_1 hc, pD_2 hc, pD_3 hc, pD_5 hc, pD_8 hc, pD_11 hc, pD_12 hc, pD_13 hc, pD_14 hc, pD_15 hc, am_b_some, sD_10 hc (show 8 * t + i < 24 by omega), vu_at, vu_vu]
      exact ih
theorem both_each (hI : INV P S) {a b : Int32} : both L xs P S m_X4_each m_X5_each [.int a, .int b] := by
  cases ht : isIn 3 a
  · refine both_same hI (x := -2) ?_ (fun h hc => ?_)
    · refine en_X4_each k_0 rfl rfl (ch_X4_each_0 ⟨_, _, ok_isTallyC, ?_⟩)
      rw [if_pos (nI_no ht)]; (first | exact ⟨fit_i _, rfl, rfl⟩ | exact ⟨fit_i _, rfl, trivial⟩ | exact ⟨fit_i _, trivial, rfl⟩ | exact ⟨fit_i _, trivial, trivial⟩)
    · refine en_X5_each (cD hc) rfl rfl (ch_X5_each_0 ⟨_, _, ok_isTallyD, ?_⟩)
      rw [if_pos (nI_no ht)]; (first | exact ⟨fit_i _, rfl, rfl⟩ | exact ⟨fit_i _, rfl, trivial⟩ | exact ⟨fit_i _, trivial, rfl⟩ | exact ⟨fit_i _, trivial, trivial⟩)
  · obtain ⟨t, ht3, rfl⟩ := isIn_val (by omega) ht
    cases hb : isIn 3 b
    · have hb' := not_in3 hb
      refine both_same hI (x := -3) ?_ (fun h hc => ?_)
      · refine en_X4_each k_0 rfl rfl (ch_X4_each_0 ⟨_, _, ok_isTallyC, ?_⟩)
        rw [if_neg (nI_yes ht)]
        rcases hb' with q | ⟨q1, q2⟩
        · rw [if_pos q]; (first | exact ⟨fit_i _, rfl, rfl⟩ | exact ⟨fit_i _, rfl, trivial⟩ | exact ⟨fit_i _, trivial, rfl⟩ | exact ⟨fit_i _, trivial, trivial⟩)
        · rw [if_neg q1, if_pos q2]; (first | exact ⟨fit_i _, rfl, rfl⟩ | exact ⟨fit_i _, rfl, trivial⟩ | exact ⟨fit_i _, trivial, rfl⟩ | exact ⟨fit_i _, trivial, trivial⟩)
      · refine en_X5_each (cD hc) rfl rfl (ch_X5_each_0 ⟨_, _, ok_isTallyD, ?_⟩)
        rw [if_neg (nI_yes ht)]
        refine ⟨_, _, ok_in, ?_⟩
        rw [in3, if_pos (nI_no hb)]; (first | exact ⟨fit_i _, rfl, rfl⟩ | exact ⟨fit_i _, rfl, trivial⟩ | exact ⟨fit_i _, trivial, rfl⟩ | exact ⟨fit_i _, trivial, trivial⟩)
    · obtain ⟨w, hw, rfl⟩ := isIn_val (by omega) hb
      have q1 : ¬ nI w < 0 := nI_nlt (a := w) (b := 0) (by omega) (by omega)
      have q2 : ¬ (2 : Int32) < nI w := nI_nlt (a := 2) (b := w) (by omega) (by omega)
      obtain ⟨n, m, c, g1, g2, g3, hT, g4⟩ := id hI
      rcases hT t ht3 with ⟨c1, c2, c3⟩ | ⟨c1, k, c2, c3, c4, c5⟩
      · refine both_same hI (x := -11) ?_ (fun h hc => ?_)
        · refine en_X4_each k_0 rfl rfl (ch_X4_each_0 ⟨_, _, ok_isTallyC, ?_⟩)
          rw [if_neg (nI_yes ht), if_neg q1, if_neg q2]
          simp only [f0_6, a77 ht3, gY_2 ht3, c1, am_b_some]
          rw [if_neg (by decide)]; (first | exact ⟨fit_i _, rfl, rfl⟩ | exact ⟨fit_i _, rfl, trivial⟩ | exact ⟨fit_i _, trivial, rfl⟩ | exact ⟨fit_i _, trivial, trivial⟩)
        · refine en_X5_each (cD hc) rfl rfl (ch_X5_each_0 ⟨_, _, ok_isTallyD, ?_⟩)
          rw [if_neg (nI_yes ht)]
          refine ⟨_, _, ok_in, ?_⟩
          rw [in3, if_neg (nI_yes hb)]
          simp only [cD hc, gD_0 hc, gD_1 hc, gD_2 hc, gD_3 hc, gD_4 hc, gD_5 hc, gD_6 hc, gD_7 hc, gD_8 hc, gD_9 hc, gD_10 hc, gD_11 hc, gD_12 hc, gD_13 hc, gD_14 hc, gD_15 hc, gD_16 hc, gD_17 hc, gD_18 hc, gD_19 hc, pD_1 hc, pD_2 hc, pD_3 hc, pD_5 hc, pD_8 hc, pD_11 hc, pD_12 hc, pD_13 hc, pD_14 hc, pD_15 hc, am_b_some, lD_9 hc ht3, c3]
          rw [if_pos (by decide +kernel)]; (first | exact ⟨fit_i _, rfl, rfl⟩ | exact ⟨fit_i _, rfl, trivial⟩ | exact ⟨fit_i _, trivial, rfl⟩ | exact ⟨fit_i _, trivial, trivial⟩)
      · have nneg : ¬ nI k < 0 := nI_nlt (a := k) (b := 0) (by omega) (by omega)
        have main : ∀ (W : Nat → Int32), (∀ i, i < k → W i = eaG (fun i => (S 16).2 10 (8 * t + i)) (nI w) i ∧ rng (W i)) → INV P (va_up (va_up S (13 + t) ((S (13 + t)).1, va_up (S (13 + t)).2 0 (fillG k W ((S (13 + t)).2 0)))) 16 ((S 16).1, va_up (S 16).2 10 (fb_put ((S 16).2 10) (eaG (fun i => (S 16).2 10 (8 * t + i)) (nI w)) (8 * t) k))) := by
          intro W hW
          have hv := INV_tally (T := ((S (13 + t)).1, va_up (S (13 + t)).2 0 (fillG k W ((S (13 + t)).2 0)))) (f := (S 16).2 9) (g := fb_put ((S 16).2 10) (eaG (fun i => (S 16).2 10 (8 * t + i)) (nI w)) (8 * t) k) ht3 hI (fun s hs q => ⟨rfl, fun i hi => fb_put_out (by omega)⟩) (Or.inr ⟨c1, k, c2, c3, c4, fun i hi => ?_⟩)
          · rwa [w9i] at hv
          · show fillG k W ((S (13 + t)).2 0) i = _ ∧ rng (fillG k W ((S (13 + t)).2 0) i)
            rw [show fillG k W ((S (13 + t)).2 0) i = W i by unfold fillG; rw [if_pos hi], fb_put_in (by omega) (by omega), show 8 * t + i - 8 * t = i by omega]
            exact hW i hi
        have dside : ∀ h : am_H, 98 + 10 < h.1 → am_ok L xs m_X5_each [.ref 98, .int (nI t), .int (nI w)] (ob sgD h 98 (S 16)) (some (nI k)) (ob sgD h 98 ((S 16).1, va_up (S 16).2 10 (fb_put ((S 16).2 10) (eaG (fun i => (S 16).2 10 (8 * t + i)) (nI w)) (8 * t) k))) := by
          intro h hc
          refine en_X5_each (cD hc) rfl rfl (ch_X5_each_0 ⟨_, _, ok_isTallyD, ?_⟩)
          rw [if_neg (nI_yes ht)]
          refine ⟨_, _, ok_in, ?_⟩
          rw [in3, if_neg (nI_yes hb)]
          simp only [cD hc, gD_0 hc, gD_1 hc, gD_2 hc, gD_3 hc, gD_4 hc, gD_5 hc, gD_6 hc, gD_7 hc, gD_8 hc, gD_9 hc, gD_10 hc, gD_11 hc, gD_12 hc, gD_13 hc, gD_14 hc, gD_15 hc, gD_16 hc, gD_17 hc, gD_18 hc, gD_19 hc, pD_1 hc, pD_2 hc, pD_3 hc, pD_5 hc, pD_8 hc, pD_11 hc, pD_12 hc, pD_13 hc, pD_14 hc, pD_15 hc, am_b_some, lD_9 hc ht3, c4]
          rw [if_neg nneg]
          exact ok_eaL hc ht3 c2 c4
        have hw3 : w = 0 ∨ w = 1 ∨ w = 2 := by omega
        rcases hw3 with rfl | rfl | rfl
        · refine both_of (x := nI k) (main (fun i => -(S (13 + t)).2 0 i) (fun i hi => ⟨?_, rng_neg (c5 i hi).2⟩)) (vu_ne _ _ (by omega)) ?_ dside
          · unfold eaG
            rw [if_pos (show nI 0 = 0 from rfl), (c5 i hi).1]
          · refine en_X4_each k_0 HP_12 HP_22 (ch_X4_each_0 ⟨_, _, ok_isTallyC, ?_⟩)
            rw [if_neg (nI_yes ht), if_neg q1, if_neg q2]
            simp only [f0_6, a77 ht3, gY_2 ht3, c1, am_b_some]
            rw [if_pos trivial, if_pos (show nI 0 = 0 from rfl)]
            refine ⟨_, onY ht3 (ok_negate (bY ht3) c3 c2), ?_⟩
            simp only [gY_1 ht3, vu_at, am_b_some, c3]
            (first | exact ⟨fit_i _, rfl, rfl⟩ | exact ⟨fit_i _, rfl, trivial⟩ | exact ⟨fit_i _, trivial, rfl⟩ | exact ⟨fit_i _, trivial, trivial⟩)
        · refine both_of (x := nI k) (main (fun i => heldF (2 * (S (13 + t)).2 0 i)) (fun i hi => ⟨?_, rng_held _⟩)) (vu_ne _ _ (by omega)) ?_ dside
          · unfold eaG
            rw [if_neg (show ¬ nI 1 = 0 by decide +kernel), if_pos (show nI 1 = 1 from rfl), (c5 i hi).1]
          · refine en_X4_each k_0 HP_12 HP_22 (ch_X4_each_0 ⟨_, _, ok_isTallyC, ?_⟩)
            rw [if_neg (nI_yes ht), if_neg q1, if_neg q2]
            simp only [f0_6, a77 ht3, gY_2 ht3, c1, am_b_some]
            rw [if_pos trivial, if_neg (show ¬ nI 1 = 0 by decide +kernel), if_pos (show nI 1 = 1 from rfl)]
            refine ⟨_, onY ht3 (ok_twice (bY ht3) c3 c2), ?_⟩
            simp only [gY_1 ht3, vu_at, am_b_some, c3]
            (first | exact ⟨fit_i _, rfl, rfl⟩ | exact ⟨fit_i _, rfl, trivial⟩ | exact ⟨fit_i _, trivial, rfl⟩ | exact ⟨fit_i _, trivial, trivial⟩)
        · refine both_of (x := nI k) (main (fun i => heldF (tsum ((S (13 + t)).2 0) (i + 1))) (fun i hi => ⟨?_, rng_held _⟩)) (vu_ne _ _ (by omega)) ?_ dside
          · unfold eaG
            rw [if_neg (show ¬ nI 2 = 0 by decide +kernel), if_neg (show ¬ nI 2 = 1 by decide +kernel), tsum_cong (i + 1) (fun j hj => (c5 j (by omega)).1)]
          · refine en_X4_each k_0 HP_12 HP_22 (ch_X4_each_0 ⟨_, _, ok_isTallyC, ?_⟩)
            rw [if_neg (nI_yes ht), if_neg q1, if_neg q2]
            simp only [f0_6, a77 ht3, gY_2 ht3, c1, am_b_some]
            rw [if_pos trivial, if_neg (show ¬ nI 2 = 0 by decide +kernel), if_neg (show ¬ nI 2 = 1 by decide +kernel)]
            refine ⟨_, onY ht3 (ok_sumUp (bY ht3) c3 c2), ?_⟩
            simp only [gY_1 ht3, vu_at, am_b_some, c3]
            (first | exact ⟨fit_i _, rfl, rfl⟩ | exact ⟨fit_i _, rfl, trivial⟩ | exact ⟨fit_i _, trivial, rfl⟩ | exact ⟨fit_i _, trivial, trivial⟩)
theorem ok_apL (hc : c + 10 < h.1) {t o k j : Nat} (ht3 : t < 3) (ho3 : o < 3) (hk : k + j ≤ 8) (e : D.2 9 t = nI k) (hj : t = o → j ≤ k) : am_wa L xs m_X5_append (ob sgD h c D) (some (nI (k + j))) (ob sgD h c (D.1, va_up (va_up D.2 9 (upd (D.2 9) t (nI (k + j)))) 10 (fb_put (D.2 10) (fun i => D.2 10 (8 * o + i)) (8 * t + k) j))) 64 [.ref c, .int (nI t), .int (nI o), .int (nI j), .int 0] [] (ob sgD h c D) := by
  have key := up_to (P := fun i => am_wa L xs m_X5_append (ob sgD h c D) (some (nI (k + j))) (ob sgD h c (D.1, va_up (va_up D.2 9 (upd (D.2 9) t (nI (k + j)))) 10 (fb_put (D.2 10) (fun i => D.2 10 (8 * o + i)) (8 * t + k) j))) 64 [.ref c, .int (nI t), .int (nI o), .int (nI j), .int (nI i)] [] (ob sgD h c (D.1, va_up (va_up D.2 9 (upd (D.2 9) t (nI (k + i)))) 10 (fb_put (D.2 10) (fun i => D.2 10 (8 * o + i)) (8 * t + k) i)))) j ?_ ?_ 0 (by omega)
  · rw [fb_put_0, Nat.add_zero, ← e, upd_id, vu_id, vu_id] at key
    exact key
  · refine ch_X5_append_64 ?_
    rw [if_neg (nI_irr _)]
    simp only [cD hc, gD_0 hc, gD_1 hc, gD_2 hc, gD_3 hc, gD_4 hc, gD_5 hc, gD_6 hc, gD_7 hc, gD_8 hc, gD_9 hc, gD_10 hc, gD_11 hc, gD_12 hc, gD_13 hc, gD_14 hc, gD_15 hc, gD_16 hc, gD_17 hc, gD_18 hc, gD_19 hc, pD_1 hc, pD_2 hc, pD_3 hc, pD_5 hc, pD_8 hc, pD_11 hc, pD_12 hc, pD_13 hc, pD_14 hc, pD_15 hc, am_b_some, lD_9 hc ht3, w9, upd_at]
    (first | exact ⟨fit_i _, rfl, rfl⟩ | exact ⟨fit_i _, rfl, trivial⟩ | exact ⟨fit_i _, trivial, rfl⟩ | exact ⟨fit_i _, trivial, trivial⟩)
  · intro i hi ih
    refine ch_X5_append_64 ?_
    rw [if_pos (nI_lt hi (by omega))]
    simp only [cD hc, gD_0 hc, gD_1 hc, gD_2 hc, gD_3 hc, gD_4 hc, gD_5 hc, gD_6 hc, gD_7 hc, gD_8 hc, gD_9 hc, gD_10 hc, gD_11 hc, gD_12 hc, gD_13 hc, gD_14 hc, gD_15 hc, gD_16 hc, gD_17 hc, gD_18 hc, gD_19 hc, pD_1 hc, pD_2 hc, pD_3 hc, pD_5 hc, pD_8 hc, pD_11 hc, pD_12 hc, pD_13 hc, pD_14 hc, pD_15 hc, am_b_some, lD_9 hc ht3, w9, w10, upd_at, i8, lD_10 hc (show 8 * o + i < 24 by omega), sD_10 hc (show 8 * t + (k + i) < 24 by omega), sD_9 hc ht3, vu_vu, vu_ne _ _ (show ¬ 9 = 10 by omega), vu_at, upd_upd]
    rw [fb_put_out (by omega), show 8 * t + (k + i) = 8 * t + k + i by omega, fb_put_succ (D.2 10) (fun i => D.2 10 (8 * o + i)) (8 * t + k) i, ← nI_succ, ← nI_succ]
    have sw : ∀ (F : Nat → Nat → Int32) (a b f : Nat → Int32), va_up (va_up (va_up F 9 a) 10 f) 9 b = va_up (va_up F 9 b) 10 f := by
      intro F a b f
      funext x
      unfold va_up
      by_cases e1 : x = 9
      · subst e1; rfl
      · by_cases e2 : x = 10
        · subst e2; rfl
        · simp [e1, e2]
    rw [sw]
    exact ih
theorem both_append (hI : INV P S) {a b : Int32} : both L xs P S m_X4_append m_X5_append [.int a, .int b] := by
  cases ht : isIn 3 a
  · refine both_same hI (x := -2) ?_ (fun h hc => ?_)
    · refine en_X4_append k_0 rfl rfl (ch_X4_append_0 ⟨_, _, ok_isTallyC, ?_⟩)
      rw [if_pos (nI_no ht)]; (first | exact ⟨fit_i _, rfl, rfl⟩ | exact ⟨fit_i _, rfl, trivial⟩ | exact ⟨fit_i _, trivial, rfl⟩ | exact ⟨fit_i _, trivial, trivial⟩)
    · refine en_X5_append (cD hc) rfl rfl (ch_X5_append_0 ⟨_, _, ok_isTallyD, ?_⟩)
      rw [if_pos (nI_no ht)]; (first | exact ⟨fit_i _, rfl, rfl⟩ | exact ⟨fit_i _, rfl, trivial⟩ | exact ⟨fit_i _, trivial, rfl⟩ | exact ⟨fit_i _, trivial, trivial⟩)
  · obtain ⟨t, ht3, rfl⟩ := isIn_val (by omega) ht
    cases hb : isIn 3 b
    · refine both_same hI (x := -2) ?_ (fun h hc => ?_)
      · refine en_X4_append k_0 rfl rfl (ch_X4_append_0 ⟨_, _, ok_isTallyC, ?_⟩)
        rw [if_neg (nI_yes ht)]
        refine ⟨_, _, ok_isTallyC, ?_⟩
        rw [if_pos (nI_no hb)]; (first | exact ⟨fit_i _, rfl, rfl⟩ | exact ⟨fit_i _, rfl, trivial⟩ | exact ⟨fit_i _, trivial, rfl⟩ | exact ⟨fit_i _, trivial, trivial⟩)
      · refine en_X5_append (cD hc) rfl rfl (ch_X5_append_0 ⟨_, _, ok_isTallyD, ?_⟩)
        rw [if_neg (nI_yes ht)]
        refine ⟨_, _, ok_isTallyD, ?_⟩
        rw [if_pos (nI_no hb)]; (first | exact ⟨fit_i _, rfl, rfl⟩ | exact ⟨fit_i _, rfl, trivial⟩ | exact ⟨fit_i _, trivial, rfl⟩ | exact ⟨fit_i _, trivial, trivial⟩)
    · obtain ⟨o, ho3, rfl⟩ := isIn_val (by omega) hb
      obtain ⟨n, m, c, g1, g2, g3, hT, g4⟩ := id hI
      rcases hT t ht3 with ⟨c1, c2, c3⟩ | ⟨c1, k, c2, c3, c4, c5⟩
      · refine both_same hI (x := -11) ?_ (fun h hc => ?_)
        · refine en_X4_append k_0 rfl rfl (ch_X4_append_0 ⟨_, _, ok_isTallyC, ?_⟩)
          rw [if_neg (nI_yes ht)]
          refine ⟨_, _, ok_isTallyC, ?_⟩
          rw [if_neg (nI_yes hb)]
          simp only [f0_6, a77 ht3, gY_2 ht3, c1, am_b_some]
          rw [if_neg (by decide)]; (first | exact ⟨fit_i _, rfl, rfl⟩ | exact ⟨fit_i _, rfl, trivial⟩ | exact ⟨fit_i _, trivial, rfl⟩ | exact ⟨fit_i _, trivial, trivial⟩)
        · refine en_X5_append (cD hc) rfl rfl (ch_X5_append_0 ⟨_, _, ok_isTallyD, ?_⟩)
          rw [if_neg (nI_yes ht)]
          refine ⟨_, _, ok_isTallyD, ?_⟩
          rw [if_neg (nI_yes hb)]
          simp only [cD hc, gD_0 hc, gD_1 hc, gD_2 hc, gD_3 hc, gD_4 hc, gD_5 hc, gD_6 hc, gD_7 hc, gD_8 hc, gD_9 hc, gD_10 hc, gD_11 hc, gD_12 hc, gD_13 hc, gD_14 hc, gD_15 hc, gD_16 hc, gD_17 hc, gD_18 hc, gD_19 hc, pD_1 hc, pD_2 hc, pD_3 hc, pD_5 hc, pD_8 hc, pD_11 hc, pD_12 hc, pD_13 hc, pD_14 hc, pD_15 hc, am_b_some, lD_9 hc ht3, c3]
          rw [if_pos (by decide +kernel)]; (first | exact ⟨fit_i _, rfl, rfl⟩ | exact ⟨fit_i _, rfl, trivial⟩ | exact ⟨fit_i _, trivial, rfl⟩ | exact ⟨fit_i _, trivial, trivial⟩)
      · have nneg : ¬ nI k < 0 := nI_nlt (a := k) (b := 0) (by omega) (by omega)
        rcases hT o ho3 with ⟨d1, d2, d3⟩ | ⟨d1, j, d2, d3, d4, d5⟩
        · refine both_same hI (x := -11) ?_ (fun h hc => ?_)
          · refine en_X4_append k_0 rfl rfl (ch_X4_append_0 ⟨_, _, ok_isTallyC, ?_⟩)
            rw [if_neg (nI_yes ht)]
            refine ⟨_, _, ok_isTallyC, ?_⟩
            rw [if_neg (nI_yes hb)]
            simp only [f0_6, a77 ht3, gY_2 ht3, c1, a77 ho3, gY_2 ho3, d1, am_b_some]
            rw [if_pos trivial, if_neg (by decide)]; (first | exact ⟨fit_i _, rfl, rfl⟩ | exact ⟨fit_i _, rfl, trivial⟩ | exact ⟨fit_i _, trivial, rfl⟩ | exact ⟨fit_i _, trivial, trivial⟩)
          · refine en_X5_append (cD hc) rfl rfl (ch_X5_append_0 ⟨_, _, ok_isTallyD, ?_⟩)
            rw [if_neg (nI_yes ht)]
            refine ⟨_, _, ok_isTallyD, ?_⟩
            rw [if_neg (nI_yes hb)]
            simp only [cD hc, gD_0 hc, gD_1 hc, gD_2 hc, gD_3 hc, gD_4 hc, gD_5 hc, gD_6 hc, gD_7 hc, gD_8 hc, gD_9 hc, gD_10 hc, gD_11 hc, gD_12 hc, gD_13 hc, gD_14 hc, gD_15 hc, gD_16 hc, gD_17 hc, gD_18 hc, gD_19 hc, pD_1 hc, pD_2 hc, pD_3 hc, pD_5 hc, pD_8 hc, pD_11 hc, pD_12 hc, pD_13 hc, pD_14 hc, pD_15 hc, am_b_some, lD_9 hc ht3, lD_9 hc ho3, c4, d3]
            rw [if_neg nneg, if_pos (by decide +kernel)]; (first | exact ⟨fit_i _, rfl, rfl⟩ | exact ⟨fit_i _, rfl, trivial⟩ | exact ⟨fit_i _, trivial, rfl⟩ | exact ⟨fit_i _, trivial, trivial⟩)
        · have nnegj : ¬ nI j < 0 := nI_nlt (a := j) (b := 0) (by omega) (by omega)
          by_cases h8 : 8 < k + j
          · have h8' : (8 : Int32) < nI (k + j) := nI_lt (a := 8) h8 (by omega)
            refine both_same hI (x := -13) ?_ (fun h hc => ?_)
            · refine en_X4_append k_0 rfl rfl (ch_X4_append_0 ⟨_, _, ok_isTallyC, ?_⟩)
              rw [if_neg (nI_yes ht)]
              refine ⟨_, _, ok_isTallyC, ?_⟩
              rw [if_neg (nI_yes hb)]
              simp only [f0_6, a77 ht3, gY_2 ht3, gY_1 ht3, c1, c3, a77 ho3, gY_2 ho3, gY_1 ho3, d1, d3, am_b_some, nI_add]
              rw [if_pos trivial, if_pos trivial, if_pos h8']; (first | exact ⟨fit_i _, rfl, rfl⟩ | exact ⟨fit_i _, rfl, trivial⟩ | exact ⟨fit_i _, trivial, rfl⟩ | exact ⟨fit_i _, trivial, trivial⟩)
            · refine en_X5_append (cD hc) rfl rfl (ch_X5_append_0 ⟨_, _, ok_isTallyD, ?_⟩)
              rw [if_neg (nI_yes ht)]
              refine ⟨_, _, ok_isTallyD, ?_⟩
              rw [if_neg (nI_yes hb)]
              simp only [cD hc, gD_0 hc, gD_1 hc, gD_2 hc, gD_3 hc, gD_4 hc, gD_5 hc, gD_6 hc, gD_7 hc, gD_8 hc, gD_9 hc, gD_10 hc, gD_11 hc, gD_12 hc, gD_13 hc, gD_14 hc, gD_15 hc, gD_16 hc, gD_17 hc, gD_18 hc, gD_19 hc, pD_1 hc, pD_2 hc, pD_3 hc, pD_5 hc, pD_8 hc, pD_11 hc, pD_12 hc, pD_13 hc, pD_14 hc, pD_15 hc, am_b_some, lD_9 hc ht3, lD_9 hc ho3, c4, d4, nI_add]
              rw [if_neg nneg, if_neg nnegj, if_pos h8']; (first | exact ⟨fit_i _, rfl, rfl⟩ | exact ⟨fit_i _, rfl, trivial⟩ | exact ⟨fit_i _, trivial, rfl⟩ | exact ⟨fit_i _, trivial, trivial⟩)
          · have h8' : ¬ (8 : Int32) < nI (k + j) := nI_nlt (a := 8) (b := k + j) (by omega) (by omega)
            have hself : t = o → j = k := fun z => by
              subst z
              exact (nI_eq (by omega) (by omega)).mp (d4.symm.trans c4)
            have hv := INV_tally (T := (upd (S (13 + t)).1 1 (nI (k + j)), va_up (S (13 + t)).2 0 (va_cpy ((S (13 + o)).2 0) ((S (13 + t)).2 0) 0 k j))) (f := upd ((S 16).2 9) t (nI (k + j))) (g := fb_put ((S 16).2 10) (fun i => (S 16).2 10 (8 * o + i)) (8 * t + k) j) ht3 hI (fun s hs q => ⟨upd_ne _ _ q, fun i hi => fb_put_out (by omega)⟩) (Or.inr ⟨c1, k + j, by omega, rfl, upd_at _ _ _, fun i hi => ?_⟩)
            · refine both_of (x := nI (k + j)) hv (vu_ne _ _ (by omega)) ?_ (fun h hc => ?_)
              · refine en_X4_append k_0 HP_12 HP_22 (ch_X4_append_0 ⟨_, _, ok_isTallyC, ?_⟩)
                rw [if_neg (nI_yes ht)]
                refine ⟨_, _, ok_isTallyC, ?_⟩
                rw [if_neg (nI_yes hb)]
                simp only [f0_6, a77 ht3, gY_2 ht3, gY_1 ht3, c1, c3, a77 ho3, gY_2 ho3, gY_1 ho3, d1, d3, am_b_some, nI_add]
                rw [if_pos trivial, if_pos trivial, if_neg h8']
                have call : am_ok L xs m_X2_addAll [.ref (92 + 2 * t), .ref (92 + 2 * o)] (HP P S) none (HP P (va_up S (13 + t) (upd (S (13 + t)).1 1 (nI (k + j)), va_up (S (13 + t)).2 0 (va_cpy ((S (13 + o)).2 0) ((S (13 + t)).2 0) 0 k j)))) := by
                  by_cases q : t = o
                  · have ej := hself q
                    subst q
                    subst ej
                    exact onY ht3 (ok_addAll_self (bY ht3) c3 (by omega))
                  · have := ok_addAll (L := L) (xs := xs) (h := HP P S) (b := 92 + 2 * t) (c := 92 + 2 * o) (T := S (13 + t)) (U := S (13 + o)) (bY ht3) (bY ho3) (by omega) c3 d3 (by omega)
                    rwa [fiY ho3, fiY ht3, foY ht3] at this
                refine ⟨_, call, ?_⟩
                simp only [f0_6, a77 ht3, gY_1 ht3, vu_at, upd_at, am_b_some]
                (first | exact ⟨fit_i _, rfl, rfl⟩ | exact ⟨fit_i _, rfl, trivial⟩ | exact ⟨fit_i _, trivial, rfl⟩ | exact ⟨fit_i _, trivial, trivial⟩)
              · refine en_X5_append (cD hc) rfl rfl (ch_X5_append_0 ⟨_, _, ok_isTallyD, ?_⟩)
                rw [if_neg (nI_yes ht)]
                refine ⟨_, _, ok_isTallyD, ?_⟩
                rw [if_neg (nI_yes hb)]
                simp only [cD hc, gD_0 hc, gD_1 hc, gD_2 hc, gD_3 hc, gD_4 hc, gD_5 hc, gD_6 hc, gD_7 hc, gD_8 hc, gD_9 hc, gD_10 hc, gD_11 hc, gD_12 hc, gD_13 hc, gD_14 hc, gD_15 hc, gD_16 hc, gD_17 hc, gD_18 hc, gD_19 hc, pD_1 hc, pD_2 hc, pD_3 hc, pD_5 hc, pD_8 hc, pD_11 hc, pD_12 hc, pD_13 hc, pD_14 hc, pD_15 hc, am_b_some, lD_9 hc ht3, lD_9 hc ho3, c4, d4, nI_add]
                rw [if_neg nneg, if_neg nnegj, if_neg h8']
                exact ok_apL hc ht3 ho3 (by omega) c4 (fun z => by rw [hself z]; exact Nat.le_refl _)
            · show va_cpy ((S (13 + o)).2 0) ((S (13 + t)).2 0) 0 k j i = _ ∧ rng (va_cpy ((S (13 + o)).2 0) ((S (13 + t)).2 0) 0 k j i)
              unfold va_cpy
              by_cases q : k ≤ i ∧ i < k + j
              · rw [if_pos q, fb_put_in (by omega) (by omega), Nat.zero_add]
                have := d5 (i - k) (by omega)
                refine ⟨?_, this.2⟩
                rw [this.1]
                show (S 16).2 10 (8 * o + (i - k)) = (S 16).2 10 (8 * o + (8 * t + i - (8 * t + k)))
                rw [show 8 * t + i - (8 * t + k) = i - k by omega]
              · rw [if_neg q, fb_put_out (by omega)]
                exact c5 i (by omega)
end TE
