/-! DEEDS OF BOTH: cycle, give, join, part -/
def JK (K : Nat → Int32) (u v : Nat) : Nat → Int32 := upd (upd K u (K u ||| (1 : Int32) <<< (nI v &&& 31))) v (upd K u (K u ||| (1 : Int32) <<< (nI v &&& 31)) v ||| (1 : Int32) <<< (nI u &&& 31))
def CK (K : Nat → Int32) (u v : Nat) : Nat → Int32 := upd (upd K u (K u &&& ((1 : Int32) <<< (nI v &&& 31) ^^^ (-1)))) v (upd K u (K u &&& ((1 : Int32) <<< (nI v &&& 31) ^^^ (-1))) v &&& ((1 : Int32) <<< (nI u &&& 31) ^^^ (-1)))
theorem bt_JK {K : Nat → Int32} {u v a b : Nat} (hu : u < 8) (hv : v < 8) (ne : ¬ u = v) (hb : b < 32) : bt (JK K u v a) b = (bt (K a) b || (decide (a = u ∧ b = v) || decide (a = v ∧ b = u))) := by
  unfold JK
  by_cases e1 : a = v
  · subst e1
    rw [upd_at, upd_ne _ _ (fun z => ne z.symm), b_or, bt_one (by omega) hb]
    have ne' : ¬ a = u := fun z => ne z.symm
    simp [ne']
  · rw [upd_ne _ _ e1]
    by_cases e2 : a = u
    · subst e2
      rw [upd_at, b_or, bt_one (by omega) hb]
      simp [e1]
    · rw [upd_ne _ _ e2]
      simp [e1, e2]
theorem bt_CK {K : Nat → Int32} {u v a b : Nat} (hu : u < 8) (hv : v < 8) (ne : ¬ u = v) (hb : b < 32) : bt (CK K u v a) b = (bt (K a) b && (!decide (a = u ∧ b = v) && !decide (a = v ∧ b = u))) := by
  unfold CK
  by_cases e1 : a = v
  · subst e1
    rw [upd_at, upd_ne _ _ (fun z => ne z.symm), b_and, b_xor, b_m1 b hb, bt_one (by omega) hb]
    have ne' : ¬ a = u := fun z => ne z.symm
    simp [ne']
  · rw [upd_ne _ _ e1]
    by_cases e2 : a = u
    · subst e2
      rw [upd_at, b_and, b_xor, b_m1 b hb, bt_one (by omega) hb]
      simp [e1]
    · rw [upd_ne _ _ e2]
      simp [e1, e2]
theorem wf_JK {K : Nat → Int32} {n u v : Nat} (h8 : n ≤ 8) (hu : u < n) (hv : v < n) (ne : ¬ u = v) (h : wfL K n) : wfL (JK K u v) n := by
  obtain ⟨h1, h2, h3, h4, h5⟩ := h
  refine ⟨fun a ha => ?_, fun a ha i hi1 hi2 => ?_, fun a b ha hb => ?_, fun a ha => ?_, fun a b ha hb z => ?_⟩
  · unfold JK
    rw [upd_ne _ _ (by omega), upd_ne _ _ (by omega), h1 a ha]
  · rw [bt_JK (by omega) (by omega) ne hi2, h2 a ha i hi1 hi2]
    simp; omega
  · rw [bt_JK (by omega) (by omega) ne (by omega), bt_JK (by omega) (by omega) ne (by omega), h3 a b ha hb]
    congr 1
    by_cases q1 : a = u <;> by_cases q2 : b = v <;> by_cases q3 : a = v <;> by_cases q4 : b = u <;> simp [q1, q2, q3, q4]
  · rw [bt_JK (by omega) (by omega) ne (by omega), h4 a ha]
    simp; omega
  · rw [bt_JK (by omega) (by omega) ne (by omega)] at z
    simp only [Bool.or_eq_true, decide_eq_true_eq] at z
    rcases z with z | ⟨z1, z2⟩ | ⟨z1, z2⟩
    · exact h5 a b ha hb z
    · omega
    · omega
theorem wf_CK {K : Nat → Int32} {n u v : Nat} (h8 : n ≤ 8) (hu : u < n) (hv : v < n) (ne : ¬ u = v) (h : wfL K n) : wfL (CK K u v) n := by
  obtain ⟨h1, h2, h3, h4, h5⟩ := h
  refine ⟨fun a ha => ?_, fun a ha i hi1 hi2 => ?_, fun a b ha hb => ?_, fun a ha => ?_, fun a b ha hb z => ?_⟩
  · unfold CK
    rw [upd_ne _ _ (by omega), upd_ne _ _ (by omega), h1 a ha]
  · rw [bt_CK (by omega) (by omega) ne hi2, h2 a ha i hi1 hi2]
    rfl
  · rw [bt_CK (by omega) (by omega) ne (by omega), bt_CK (by omega) (by omega) ne (by omega), h3 a b ha hb]
    congr 1
    by_cases q1 : a = u <;> by_cases q2 : b = v <;> by_cases q3 : a = v <;> by_cases q4 : b = u <;> simp [q1, q2, q3, q4]
  · rw [bt_CK (by omega) (by omega) ne (by omega), h4 a ha]
    rfl
  · rw [bt_CK (by omega) (by omega) ne (by omega)] at z
    simp only [Bool.and_eq_true] at z
    exact h5 a b ha hb z.1
/-- a mesh with other links, or other holders -/
def setL (M : sg_S) (K : Nat → Int32) : sg_S := (M.1, va_up M.2 7 K)
def setH (M : sg_S) (H : Nat → Int32) : sg_S := (M.1, va_up M.2 8 H)
theorem wf_setL {M : sg_S} {K : Nat → Int32} {n m c : Nat} (h : wfS M n m c) (hK : wfL K n) : wfS (setL M K) n m c := ⟨h.1, h.2.1, h.2.2.1, h.2.2.2.1, h.2.2.2.2.1, hK, h.2.2.2.2.2.2⟩
theorem wf_setH {M : sg_S} {H : Nat → Int32} {n m c : Nat} (h : wfS M n m c) (hH : wfH H m) : wfS (setH M H) n m c := ⟨h.1, h.2.1, h.2.2.1, h.2.2.2.1, h.2.2.2.2.1, h.2.2.2.2.2.1, hH⟩
theorem bOf_setL {M D : sg_S} {k k' : Nat → Int32} {K : Nat → Int32} (h : bOf M D k) (e0 : k' 0 = k 0) (e1 : seg k' 1 = seg k 1) (e9 : seg k' 9 = seg k 9) (e17 : seg k' 17 = K) (e30 : k' 30 = k 30) (ep : ∀ p, p < 5 → k' (25 + p) = k (25 + p)) : bOf (setL M K) D k' := by
  obtain ⟨⟨⟨a1, a2, a3, a4⟩, a5⟩, a6, a7⟩ := h
  refine ⟨⟨⟨a1, by rw [e1]; exact a2, by rw [e17]; rfl, by rw [e9]; exact a4⟩, by rw [e0]; exact a5⟩, by rw [e30]; exact a6, fun z p hp => by rw [ep p hp]; exact a7 z p hp⟩
theorem bOf_setH {M D : sg_S} {k k' : Nat → Int32} {H : Nat → Int32} (h : bOf M D k) (e0 : k' 0 = k 0) (e1 : seg k' 1 = seg k 1) (e9 : seg k' 9 = H) (e17 : seg k' 17 = seg k 17) (e30 : k' 30 = k 30) (ep : ∀ p, p < 5 → k' (25 + p) = k (25 + p)) : bOf (setH M H) D k' := by
  obtain ⟨⟨⟨a1, a2, a3, a4⟩, a5⟩, a6, a7⟩ := h
  refine ⟨⟨⟨a1, by rw [e1]; exact a2, by rw [e17]; exact a3, by rw [e9]; rfl⟩, by rw [e0]; exact a5⟩, by rw [e30]; exact a6, fun z p hp => by rw [ep p hp]; exact a7 z p hp⟩
section DF
variable {L : Nat} {xs : Nat → Int32} {P : st_P} {S : Nat → sg_S} {h : am_H} {n m c : Nat}
theorem both_cycle (hI : INVn n m c P S) {a : Int32} : both L xs P S m_X4_cycle m_X5_cycle [.int a] := by
  have hd := hI.1.1
  have hw := hI.1.2.2.1
  cases hv : isIn m a
  · refine both_same ⟨n, m, c, hI⟩ (x := -2) ?_ (fun h hc => ?_)
    · refine en_X4_cycle k_0 rfl rfl (ch_X4_cycle_0 ?_)
      simp only [f0_0, am_b_some]
      refine ⟨_, _, cSl hI, ?_⟩
      rw [if_pos (nI_no hv)]; (first | exact ⟨fit_i _, rfl, rfl⟩ | exact ⟨fit_i _, rfl, trivial⟩ | exact ⟨fit_i _, trivial, rfl⟩ | exact ⟨fit_i _, trivial, trivial⟩)
    · refine en_X5_cycle (cD hc) rfl rfl (ch_X5_cycle_0 ⟨_, _, dSl hI hc, ?_⟩)
      rw [if_pos (nI_no hv)]; (first | exact ⟨fit_i _, rfl, rfl⟩ | exact ⟨fit_i _, rfl, trivial⟩ | exact ⟨fit_i _, trivial, rfl⟩ | exact ⟨fit_i _, trivial, trivial⟩)
  · obtain ⟨t, ht, rfl⟩ := isIn_val (by have := hd.2.1.2; omega) hv
    obtain ⟨P1, S1, D1, hr, ⟨e0, e16⟩, hk, hn, hb, hN⟩ := deed (L := L) (xs := xs) hI
    have I2 := hN (cyM (S 0) n t) (cyB (S 0) (fun j => D1.2 0 (0 + j)) n t) (drL (cyF (S 0) n t) 0 (cyA (S 0) n t).2 (D1.2 18) n).1 (wf_cy hd ht hw) (bOf_cong (D := (D1.1, va_up D1.2 18 (drL (cyF (S 0) n t) 0 (cyA (S 0) n t).2 (D1.2 18) n).1)) rfl (fun _ _ => rfl) (bOf_cy hd hw hb.1))
    refine both_of (x := (cyM (S 0) n t).2 9 4) ⟨n, m, c, I2⟩ ((vu_ne _ _ (by omega)).trans e16) ?_ (fun h hc => ?_)
    · refine en_X4_cycle k_0 HP_12 HP_22 (ch_X4_cycle_0 ?_)
      simp only [f0_0, am_b_some]
      refine ⟨_, _, cSl hI, ?_⟩
      rw [if_neg (nI_yes hv)]
      simp only [f0_0, f0_3, am_b_some]
      refine ⟨_, hr, ?_⟩
      simp only [f0_0, am_b_some]
      have call := onN (P := P1) (S := S1) (ok_cycleM (L := L) (xs := xs) bN hd (by rw [e0]; exact hw) ht)
      rw [e0] at call
      refine ⟨_, call, ?_⟩
      have l4 : am_lI (HP P1 (va_up S1 0 (cyM (S 0) n t))) .int (1 + 5) 4 = some ((va_up S1 0 (cyM (S 0) n t) 0).2 9 4) := lN_9 (v := 4) (by omega)
      simp only [f0_0, gN_9, l4, am_b_some, vu_at]
      (first | exact ⟨fit_i _, rfl, rfl⟩ | exact ⟨fit_i _, rfl, trivial⟩ | exact ⟨fit_i _, trivial, rfl⟩ | exact ⟨fit_i _, trivial, trivial⟩)
    · refine en_X5_cycle (cD hc) rfl rfl (ch_X5_cycle_0 ⟨_, _, dSl hI hc, ?_⟩)
      rw [if_neg (nI_yes hv)]
      refine ⟨_, hk h hc, _, onB (ok_cycleD (B := 0) hc (by omega) hn.1 hd hw hb.1 ht), ?_⟩
      have l29 : am_lI (ob sgD h 98 (dB (D1.1, va_up D1.2 18 (drL (cyF (S 0) n t) 0 (cyA (S 0) n t).2 (D1.2 18) n).1) 0 (cyB (S 0) (fun j => D1.2 0 (0 + j)) n t))) .int (98 + 1) 29 = some (cyB (S 0) (fun j => D1.2 0 (0 + j)) n t 29) := lB (B := 0) (j := 29) hc (by omega) (by omega)
      simp only [cD hc, gD_0 hc, gD_1 hc, gD_2 hc, gD_3 hc, gD_4 hc, gD_5 hc, gD_6 hc, gD_7 hc, gD_8 hc, gD_9 hc, gD_10 hc, gD_11 hc, gD_12 hc, gD_13 hc, gD_14 hc, gD_15 hc, gD_16 hc, gD_17 hc, gD_18 hc, gD_19 hc, pD_1 hc, pD_2 hc, pD_3 hc, pD_5 hc, pD_8 hc, pD_11 hc, pD_12 hc, pD_13 hc, pD_14 hc, pD_15 hc, am_b_some, l29]
      first | exact ⟨fit_i _, rfl, rfl⟩ | exact ⟨fit_i _, rfl, trivial⟩
theorem both_give (hI : INVn n m c P S) {a b : Int32} : both L xs P S m_X4_give m_X5_give [.int a, .int b] := by
  have hd := hI.1.1
  have hw := hI.1.2.2.1
  have hM := hI.1.2.2.2.1
  cases hv : isIn n a
  · refine both_same ⟨n, m, c, hI⟩ (x := -2) ?_ (fun h hc => ?_)
    · refine en_X4_give k_0 rfl rfl (ch_X4_give_0 ?_)
      simp only [f0_0, am_b_some]
      refine ⟨_, _, cSt hI, ?_⟩
      rw [if_pos (nI_no hv)]; (first | exact ⟨fit_i _, rfl, rfl⟩ | exact ⟨fit_i _, rfl, trivial⟩ | exact ⟨fit_i _, trivial, rfl⟩ | exact ⟨fit_i _, trivial, trivial⟩)
    · refine en_X5_give (cD hc) rfl rfl (ch_X5_give_0 ⟨_, _, dSt hI hc, ?_⟩)
      rw [if_pos (nI_no hv)]; (first | exact ⟨fit_i _, rfl, rfl⟩ | exact ⟨fit_i _, rfl, trivial⟩ | exact ⟨fit_i _, trivial, rfl⟩ | exact ⟨fit_i _, trivial, trivial⟩)
  · obtain ⟨v, hvn, rfl⟩ := isIn_val (by have := hd.1.2; omega) hv
    have hv8 : v < 8 := by have := hd.1.2; omega
    cases hs : isIn m b
    · refine both_same ⟨n, m, c, hI⟩ (x := -2) ?_ (fun h hc => ?_)
      · refine en_X4_give k_0 rfl rfl (ch_X4_give_0 ?_)
        simp only [f0_0, am_b_some]
        refine ⟨_, _, cSt hI, ?_⟩
        rw [if_neg (nI_yes hv)]
        simp only [f0_0, am_b_some]
        refine ⟨_, _, cSl hI, ?_⟩
        rw [if_pos (nI_no hs)]; (first | exact ⟨fit_i _, rfl, rfl⟩ | exact ⟨fit_i _, rfl, trivial⟩ | exact ⟨fit_i _, trivial, rfl⟩ | exact ⟨fit_i _, trivial, trivial⟩)
      · refine en_X5_give (cD hc) rfl rfl (ch_X5_give_0 ⟨_, _, dSt hI hc, ?_⟩)
        rw [if_neg (nI_yes hv)]
        refine ⟨_, _, dSl hI hc, ?_⟩
        rw [if_pos (nI_no hs)]; (first | exact ⟨fit_i _, rfl, rfl⟩ | exact ⟨fit_i _, rfl, trivial⟩ | exact ⟨fit_i _, trivial, rfl⟩ | exact ⟨fit_i _, trivial, trivial⟩)
    · obtain ⟨t, ht, rfl⟩ := isIn_val (by have := hd.2.1.2; omega) hs
      have ht4 : t < 4 := by have := hd.2.1.2; omega
      have j9 : (9 : Int32) + nI v = nI (0 + (9 + v)) := by rw [Nat.zero_add]; exact nI_add 9 v
      have b9 : (S 16).2 0 (0 + (9 + v)) = (S 0).2 8 v := by
        have := congrFun hM.1.2.2.2 v
        rw [seg_at _ _ hv8] at this
        exact this
      cases hh : bt ((S 0).2 8 v) t
      · refine both_same ⟨n, m, c, hI⟩ (x := -4) ?_ (fun h hc => ?_)
        · refine en_X4_give k_0 rfl rfl (ch_X4_give_0 ?_)
          simp only [f0_0, am_b_some]
          refine ⟨_, _, cSt hI, ?_⟩
          rw [if_neg (nI_yes hv)]
          simp only [f0_0, am_b_some]
          refine ⟨_, _, cSl hI, ?_⟩
          rw [if_neg (nI_yes hs)]
          simp only [f0_0, gN_8, lN_8 hv8, am_b_some]
          refine ⟨_, _, ok_has (by omega), ?_⟩
          rw [if_pos (nI_no hh)]; (first | exact ⟨fit_i _, rfl, rfl⟩ | exact ⟨fit_i _, rfl, trivial⟩ | exact ⟨fit_i _, trivial, rfl⟩ | exact ⟨fit_i _, trivial, trivial⟩)
        · refine en_X5_give (cD hc) rfl rfl (ch_X5_give_0 ⟨_, _, dSt hI hc, ?_⟩)
          rw [if_neg (nI_yes hv)]
          refine ⟨_, _, dSl hI hc, ?_⟩
          rw [if_neg (nI_yes hs)]
          simp only [cD hc, gD_0 hc, gD_1 hc, gD_2 hc, gD_3 hc, gD_4 hc, gD_5 hc, gD_6 hc, gD_7 hc, gD_8 hc, gD_9 hc, gD_10 hc, gD_11 hc, gD_12 hc, gD_13 hc, gD_14 hc, gD_15 hc, gD_16 hc, gD_17 hc, gD_18 hc, gD_19 hc, pD_1 hc, pD_2 hc, pD_3 hc, pD_5 hc, pD_8 hc, pD_11 hc, pD_12 hc, pD_13 hc, pD_14 hc, pD_15 hc, am_b_some, j9, lD_0 hc (show 0 + (9 + v) < 372 by omega), b9]
          refine ⟨_, _, ok_hasD (by omega), ?_⟩
          rw [if_pos (nI_no hh)]; (first | exact ⟨fit_i _, rfl, rfl⟩ | exact ⟨fit_i _, rfl, trivial⟩ | exact ⟨fit_i _, trivial, rfl⟩ | exact ⟨fit_i _, trivial, trivial⟩)
      · obtain ⟨P1, S1, D1, hr, ⟨e0, e16⟩, hk, hn, hb, hN⟩ := deed (L := L) (xs := xs) hI
        generalize hy : (S 0).2 8 v &&& ((1 : Int32) <<< (nI t &&& 31) ^^^ (-1)) = y
        have b9' : D1.2 0 (0 + (9 + v)) = (S 0).2 8 v := by
          have := congrFun hb.1.1.2.2.2 v
          rw [seg_at _ _ hv8] at this
          exact this
        have hH : wfH (upd ((S 0).2 8) v y) m := by
          have w := hw.2.2.2.2.2.2
          refine ⟨fun i hi => by rw [upd_ne _ _ (by omega)]; exact w.1 i hi, fun i hi s hs z => ?_⟩
          by_cases q : i = v
          · subst q
            rw [upd_at, ← hy, b_and, Bool.and_eq_true] at z
            exact w.2 i hi s hs z.1
          · rw [upd_ne _ _ q] at z
            exact w.2 i hi s hs z
        have hB := bOf_setH (k' := upd (fun j => D1.2 0 (0 + j)) (9 + v) y) (H := upd ((S 0).2 8) v y) hb (upd_ne _ _ (by omega)) (seg_ne _ _ _ _ (by omega)) (by rw [seg_upd _ _ hv8, hb.1.1.2.2.2]) (seg_ne _ _ _ _ (by omega)) (upd_ne _ _ (by omega)) (fun p hp => upd_ne _ _ (by omega))
        have I2 := hN (setH (S 0) (upd ((S 0).2 8) v y)) _ (D1.2 18) (wf_setH hw hH) hB
        rw [vu_id] at I2
        have hy8 : sm y := by rw [← hy]; exact sm_and (wfH_sm hw.2.2.2.2.2.2 hd.2.1.2 hv8)
        refine both_of (x := nI (pop y)) ⟨n, m, c, I2⟩ ((vu_ne _ _ (by omega)).trans e16) ?_ (fun h hc => ?_)
        · refine en_X4_give k_0 HP_12 HP_22 (ch_X4_give_0 ?_)
          simp only [f0_0, am_b_some]
          refine ⟨_, _, cSt hI, ?_⟩
          rw [if_neg (nI_yes hv)]
          simp only [f0_0, am_b_some]
          refine ⟨_, _, cSl hI, ?_⟩
          rw [if_neg (nI_yes hs)]
          simp only [f0_0, gN_8, lN_8 hv8, am_b_some]
          refine ⟨_, _, ok_has (by omega), ?_⟩
          rw [if_neg (nI_yes hh)]
          simp only [f0_0, f0_3, am_b_some]
          refine ⟨_, hr, ?_⟩
          simp only [f0_0, gN_8, lN_8 hv8, sN_8 hv8, am_b_some, e0, vu_at, upd_at, hy]
          refine ⟨_, _, ok_bitCount hy8, ?_⟩
          (first | exact ⟨fit_i _, rfl, rfl⟩ | exact ⟨fit_i _, rfl, trivial⟩ | exact ⟨fit_i _, trivial, rfl⟩ | exact ⟨fit_i _, trivial, trivial⟩)
        · refine en_X5_give (cD hc) rfl rfl (ch_X5_give_0 ⟨_, _, dSt hI hc, ?_⟩)
          rw [if_neg (nI_yes hv)]
          refine ⟨_, _, dSl hI hc, ?_⟩
          rw [if_neg (nI_yes hs)]
          simp only [cD hc, gD_0 hc, gD_1 hc, gD_2 hc, gD_3 hc, gD_4 hc, gD_5 hc, gD_6 hc, gD_7 hc, gD_8 hc, gD_9 hc, gD_10 hc, gD_11 hc, gD_12 hc, gD_13 hc, gD_14 hc, gD_15 hc, gD_16 hc, gD_17 hc, gD_18 hc, gD_19 hc, pD_1 hc, pD_2 hc, pD_3 hc, pD_5 hc, pD_8 hc, pD_11 hc, pD_12 hc, pD_13 hc, pD_14 hc, pD_15 hc, am_b_some, j9, lD_0 hc (show 0 + (9 + v) < 372 by omega), b9]
          refine ⟨_, _, ok_hasD (by omega), ?_⟩
          rw [if_neg (nI_yes hh)]
          refine ⟨_, hk h hc, ?_⟩
          rw [← dB_id D1 0]
          have l9 : ∀ (D : sg_S) (k : Nat → Int32), am_lI (ob sgD h 98 (dB D 0 k)) .int (98 + 1) (nI (0 + (9 + v))) = some (k (9 + v)) := fun D k => lB (B := 0) (j := 9 + v) hc (by omega) (by omega)
          have s9 : ∀ (D : sg_S) (k : Nat → Int32) (x : Int32), am_sI (ob sgD h 98 (dB D 0 k)) .int (98 + 1) (nI (0 + (9 + v))) x = some (ob sgD h 98 (dB D 0 (upd k (9 + v) x))) := fun D k x => sB (B := 0) (j := 9 + v) hc (by omega) (by omega)
          simp only [cD hc, gD_0 hc, gD_1 hc, gD_2 hc, gD_3 hc, gD_4 hc, gD_5 hc, gD_6 hc, gD_7 hc, gD_8 hc, gD_9 hc, gD_10 hc, gD_11 hc, gD_12 hc, gD_13 hc, gD_14 hc, gD_15 hc, gD_16 hc, gD_17 hc, gD_18 hc, gD_19 hc, pD_1 hc, pD_2 hc, pD_3 hc, pD_5 hc, pD_8 hc, pD_11 hc, pD_12 hc, pD_13 hc, pD_14 hc, pD_15 hc, am_b_some, l9, s9, b9', hy, upd_at]
          refine ⟨_, _, ok_ones, ?_⟩
          refine ⟨fit_i _, rfl, ?_⟩
          rw [dB_id]
theorem clash_dims (h : wfS (S 0) n m c) : wfL ((S 0).2 7) n := h.2.2.2.2.2.1
theorem both_join (hI : INVn n m c P S) {a b : Int32} : both L xs P S m_X4_join m_X5_join [.int a, .int b] := by
  have hd := hI.1.1
  have hw := hI.1.2.2.1
  have hM := hI.1.2.2.2.1
  have h8 := hd.1.2
  cases hv : isTwo n a b
  · refine both_same ⟨n, m, c, hI⟩ (x := -2) ?_ (fun h hc => ?_)
    · refine en_X4_join k_0 rfl rfl (ch_X4_join_0 ?_)
      simp only [f0_0, am_b_some]
      refine ⟨_, _, cPa hI, ?_⟩
      rw [if_pos (nI_no hv)]; (first | exact ⟨fit_i _, rfl, rfl⟩ | exact ⟨fit_i _, rfl, trivial⟩ | exact ⟨fit_i _, trivial, rfl⟩ | exact ⟨fit_i _, trivial, trivial⟩)
    · refine en_X5_join (cD hc) rfl rfl (ch_X5_join_0 ⟨_, _, dTw hI hc, ?_⟩)
      rw [if_pos (nI_no hv)]; (first | exact ⟨fit_i _, rfl, rfl⟩ | exact ⟨fit_i _, rfl, trivial⟩ | exact ⟨fit_i _, trivial, rfl⟩ | exact ⟨fit_i _, trivial, trivial⟩)
  · obtain ⟨u, v, ⟨hu, hvn, ne⟩, rfl, rfl⟩ := two_val h8 hv
    have hu8 : u < 8 := by omega
    have hv8 : v < 8 := by omega
    have j17 : (17 : Int32) + nI u = nI (0 + (17 + u)) := by rw [Nat.zero_add]; exact nI_add 17 u
    have b17 : (S 16).2 0 (0 + (17 + u)) = (S 0).2 7 u := by
      have := congrFun hM.1.2.2.1 u
      rw [seg_at _ _ hu8] at this
      exact this
    cases hh : bt ((S 0).2 7 u) v
    · obtain ⟨P1, S1, D1, hr, ⟨e0, e16⟩, hk, hn, hb, hN⟩ := deed (L := L) (xs := xs) hI
      have hB := bOf_setL (k' := upd (upd (fun j => D1.2 0 (0 + j)) (17 + u) (seg (fun j => D1.2 0 (0 + j)) 17 u ||| (1 : Int32) <<< (nI v &&& 31))) (17 + v) (upd (seg (fun j => D1.2 0 (0 + j)) 17) u (seg (fun j => D1.2 0 (0 + j)) 17 u ||| (1 : Int32) <<< (nI v &&& 31)) v ||| (1 : Int32) <<< (nI u &&& 31))) (K := JK ((S 0).2 7) u v) hb (by rw [upd_ne _ _ (by omega), upd_ne _ _ (by omega)]) (by rw [seg_ne _ _ _ _ (by omega), seg_ne _ _ _ _ (by omega)]) (by rw [seg_ne _ _ _ _ (by omega), seg_ne _ _ _ _ (by omega)]) (by rw [seg_upd _ _ hv8, seg_upd _ _ hu8, hb.1.1.2.2.1]; rfl) (by rw [upd_ne _ _ (by omega), upd_ne _ _ (by omega)]) (fun p hp => by rw [upd_ne _ _ (by omega), upd_ne _ _ (by omega)])
      have hw2 := wf_setL hw (wf_JK h8 hu hvn ne hw.2.2.2.2.2.1)
      have I2 := hN (setL (S 0) (JK ((S 0).2 7) u v)) _ (D1.2 18) hw2 hB
      rw [vu_id] at I2
      refine both_of (x := nI (clN (JK ((S 0).2 7) u v) ((S 0).2 8) n (((1 : Int32) <<< (nI m &&& 31)) - 1))) ⟨n, m, c, I2⟩ ((vu_ne _ _ (by omega)).trans e16) ?_ (fun h hc => ?_)
      · refine en_X4_join k_0 HP_12 HP_22 (ch_X4_join_0 ?_)
        simp only [f0_0, am_b_some]
        refine ⟨_, _, cPa hI, ?_⟩
        rw [if_neg (nI_yes hv)]
        simp only [f0_0, gN_7, lN_7 hu8, am_b_some]
        refine ⟨_, _, ok_has (by omega), ?_⟩
        rw [if_pos (nI_no hh)]
        simp only [f0_0, f0_3, am_b_some]
        refine ⟨_, hr, ?_⟩
        simp only [f0_0, am_b_some]
        have call := onN (P := P1) (S := S1) (ok_link (L := L) (xs := xs) bN hu8 hv8)
        rw [e0] at call
        refine ⟨_, call, ?_⟩
        simp only [f0_0, am_b_some]
        have call2 := onN0 (L := L) (xs := xs) (P := P1) (S := va_up S1 0 (setL (S 0) (JK ((S 0).2 7) u v))) (ok_clashes (n := n) (m := m) bN (by rw [vu_at]; exact hw.1.1) h8 (by rw [vu_at]; exact hw.1.2.1) (by rw [vu_at]; exact fun _ hv => wfH_sm hw.2.2.2.2.2.2 hd.2.1.2 hv))
        rw [vu_at] at call2
        refine ⟨_, _, call2, ?_⟩
        first | exact ⟨fit_i _, rfl, rfl⟩ | exact ⟨fit_i _, rfl, trivial⟩
      · refine en_X5_join (cD hc) rfl rfl (ch_X5_join_0 ⟨_, _, dTw hI hc, ?_⟩)
        rw [if_neg (nI_yes hv)]
        simp only [cD hc, gD_0 hc, gD_1 hc, gD_2 hc, gD_3 hc, gD_4 hc, gD_5 hc, gD_6 hc, gD_7 hc, gD_8 hc, gD_9 hc, gD_10 hc, gD_11 hc, gD_12 hc, gD_13 hc, gD_14 hc, gD_15 hc, gD_16 hc, gD_17 hc, gD_18 hc, gD_19 hc, pD_1 hc, pD_2 hc, pD_3 hc, pD_5 hc, pD_8 hc, pD_11 hc, pD_12 hc, pD_13 hc, pD_14 hc, pD_15 hc, am_b_some, j17, lD_0 hc (show 0 + (17 + u) < 372 by omega), b17]
        refine ⟨_, _, ok_hasD (by omega), ?_⟩
        rw [if_pos (nI_no hh)]
        refine ⟨_, hk h hc, _, onB (ok_joins (B := 0) hc (by omega) hu8 hv8), ?_⟩
        refine ⟨_, _, ok_clashesD (B := 0) hc (by omega) hn.1 hn.2.1 h8 hd.2.1.2, ?_⟩
        rw [hB.1.1.2.2.1, hB.1.1.2.2.2]
        have ec : clN (JK ((S 0).2 7) u v) ((S 0).2 8) n (((1 : Int32) <<< (nI m &&& 31)) - 1) = fb_sm (fun s => cdN (JK ((S 0).2 7) u v) ((S 0).2 8) n s / 2) m := clash_all hw2.2.2.2.2.2.1 h8 (by have := hd.2.1.2; omega)
        rw [ec]
        first | exact ⟨fit_i _, rfl, rfl⟩ | exact ⟨fit_i _, rfl, trivial⟩
    · refine both_same ⟨n, m, c, hI⟩ (x := -4) ?_ (fun h hc => ?_)
      · refine en_X4_join k_0 rfl rfl (ch_X4_join_0 ?_)
        simp only [f0_0, am_b_some]
        refine ⟨_, _, cPa hI, ?_⟩
        rw [if_neg (nI_yes hv)]
        simp only [f0_0, gN_7, lN_7 hu8, am_b_some]
        refine ⟨_, _, ok_has (by omega), ?_⟩
        rw [if_neg (nI_yes hh)]; (first | exact ⟨fit_i _, rfl, rfl⟩ | exact ⟨fit_i _, rfl, trivial⟩ | exact ⟨fit_i _, trivial, rfl⟩ | exact ⟨fit_i _, trivial, trivial⟩)
      · refine en_X5_join (cD hc) rfl rfl (ch_X5_join_0 ⟨_, _, dTw hI hc, ?_⟩)
        rw [if_neg (nI_yes hv)]
        simp only [cD hc, gD_0 hc, gD_1 hc, gD_2 hc, gD_3 hc, gD_4 hc, gD_5 hc, gD_6 hc, gD_7 hc, gD_8 hc, gD_9 hc, gD_10 hc, gD_11 hc, gD_12 hc, gD_13 hc, gD_14 hc, gD_15 hc, gD_16 hc, gD_17 hc, gD_18 hc, gD_19 hc, pD_1 hc, pD_2 hc, pD_3 hc, pD_5 hc, pD_8 hc, pD_11 hc, pD_12 hc, pD_13 hc, pD_14 hc, pD_15 hc, am_b_some, j17, lD_0 hc (show 0 + (17 + u) < 372 by omega), b17]
        refine ⟨_, _, ok_hasD (by omega), ?_⟩
        rw [if_neg (nI_yes hh)]; (first | exact ⟨fit_i _, rfl, rfl⟩ | exact ⟨fit_i _, rfl, trivial⟩ | exact ⟨fit_i _, trivial, rfl⟩ | exact ⟨fit_i _, trivial, trivial⟩)
end DF
