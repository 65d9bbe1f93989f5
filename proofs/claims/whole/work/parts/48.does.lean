/-! WHAT A CLAUSE DOES: both -/
def gdM (M : sg_S) (n : Nat) : Prop := ∃ m c, dims n m c ∧ (M.1 0 = nI n ∧ M.1 1 = nI m ∧ M.1 2 = nI c) ∧ lotOk (M.1 3) ∧ (M.1 4 = 0 ∨ M.1 4 = 1) ∧ tz4 M ∧ shOk (M.2 6) ∧ wfL (M.2 7) n
theorem rl_rng {f : Nat → Int32} {ln e : Nat} {lo hi : Int32} (a b : Nat) (ha : lo = nI a) (hb : hi = nI b) (h1 : a < 2 ^ 31) (h2 : b < 2 ^ 31) (h : rlB f ln e lo hi = true) : ∃ q, (a ≤ q ∧ q ≤ b) ∧ vlE f ln e = nI q := by
  unfold rlB rdB at h
  rw [Bool.and_eq_true] at h
  have h := of_decide_eq_true h.2
  have z1 := h.1
  have z2 := h.2
  subst ha
  subst hb
  rw [Int32.lt_iff_toInt_lt, nI_toInt h1] at z1
  rw [Int32.lt_iff_toInt_lt, nI_toInt h2] at z2
  refine ⟨(vlE f ln e).toInt.toNat, ?_, ?_⟩
  · unfold vlE; omega
  · apply Int32.toInt_inj.mp
    rw [nI_toInt (by unfold vlE; omega)]
    unfold vlE; omega
theorem seq2 {f : Nat → Int32} {ln e : Nat} {a b c d : Int32} (h : (seqR f ln [(a, b), (c, d)] e).1 = true) : rlB f ln e a b = true ∧ rlB f ln (nxE f ln e) c d = true := by
  cases q0 : rlB f ln e a b
  · simp [seqR, q0] at h
  · cases q1 : rlB f ln (nxE f ln e) c d
    · simp [seqR, q0, q1] at h
    · exact ⟨rfl, rfl⟩
theorem seq4 {f : Nat → Int32} {ln e : Nat} (h : (seqR f ln lsM e).1 = true) : rlB f ln e 2 8 = true ∧ rlB f ln (nxE f ln e) 1 4 = true ∧ rlB f ln (nxE f ln (nxE f ln e)) 1 5 = true ∧ rlB f ln (nxE f ln (nxE f ln (nxE f ln e))) 1 999 = true := by
  cases q0 : rlB f ln e 2 8
  · simp [lsM, seqR, q0] at h
  · cases q1 : rlB f ln (nxE f ln e) 1 4
    · simp [lsM, seqR, q0, q1] at h
    · cases q2 : rlB f ln (nxE f ln (nxE f ln e)) 1 5
      · simp [lsM, seqR, q0, q1, q2] at h
      · cases q3 : rlB f ln (nxE f ln (nxE f ln (nxE f ln e))) 1 999
        · simp [lsM, seqR, q0, q1, q2, q3] at h
        · exact ⟨rfl, rfl, rfl, rfl⟩
theorem lk2 {f : Nat → Int32} {ln n e : Nat} (h : (lkR f ln n e).1 = true) : rlB f ln e 0 (nI n - 1) = true ∧ rlB f ln (nxE f ln e) 0 (nI n - 1) = true ∧ ¬ vlE f ln (nxE f ln e) = vlE f ln e := by
  unfold lkR at h
  by_cases q : (seqR f ln (lsL n) e).1 = true
  · rw [if_pos q] at h
    have := seq2 q
    refine ⟨this.1, this.2, fun z => ?_⟩
    rw [if_pos z] at h
    exact absurd h (by simp)
  · rw [if_neg q] at h
    exact absurd h q
theorem fill_z {K : Nat → Int32} (h : TZ K) : fillF 8 0 K = fun _ => 0 := by
  funext i
  unfold fillF
  by_cases q : i < 8
  · rw [if_pos q]
  · rw [if_neg q, h i (by omega)]
theorem fill_tz {K : Nat → Int32} (x : Int32) (h : TZ K) : TZ (fillF 8 x K) := fun i hi => by
  unfold fillF
  rw [if_neg (by omega), h i hi]
theorem wfL_0 (n : Nat) : wfL (fun _ => 0) n := ⟨fun _ _ => rfl, fun _ _ => sm_0, fun _ _ _ _ => by rw [b_0, b_0], fun _ _ => b_0 _, fun u v _ _ z => by rw [b_0] at z; exact absurd z (by decide)⟩
theorem upd_tz {K : Nat → Int32} {u : Nat} {x : Int32} (h : TZ K) (hu : u < 8) : TZ (upd K u x) := fun i hi => by rw [upd_ne _ _ (by omega)]; exact h i hi
theorem gd_rs {f : Nat → Int32} {ln n w t : Nat} {M : sg_S} (hw : w < 4) (hg : gdM M n) (h : (rsR f ln n w t).1 = true) : ∃ n', gdM (rsM f ln w t M) n' := by
  obtain ⟨m, c, hd, hM, hl, h4, ⟨t5, t6, t7, t8⟩, hs, hL⟩ := hg
  have hw4 : w = 0 ∨ w = 1 ∨ w = 2 ∨ w = 3 := by omega
  rcases hw4 with rfl | rfl | rfl | rfl
  · obtain ⟨r0, r1, r2, r3⟩ := seq4 h
    obtain ⟨a, ha, ea⟩ := rl_rng 2 8 rfl rfl (by omega) (by omega) r0
    obtain ⟨b, hb, eb⟩ := rl_rng 1 4 rfl rfl (by omega) (by omega) r1
    obtain ⟨d, hdd, ed⟩ := rl_rng 1 5 rfl rfl (by omega) (by omega) r2
    obtain ⟨s, hss, es⟩ := rl_rng 1 999 rfl rfl (by omega) (by omega) r3
    refine ⟨a, b, d, ⟨ha, hb, hdd⟩, ⟨ea, eb, ed⟩, ⟨s, by omega, es⟩, h4, ⟨fill_tz 1 t5, fill_tz 8 t6, fill_tz 0 t7, t8⟩, fun v hv => ⟨8, by omega, by omega, ?_⟩, ?_⟩
    · show fillF 8 8 (M.2 6) v = nI 8
      unfold fillF
      rw [if_pos hv]
      rfl
    · show wfL (fillF 8 0 (M.2 7)) a
      rw [fill_z t7]
      exact wfL_0 a
  · obtain ⟨r0, r1, r2⟩ := lk2 h
    obtain ⟨u, hu, eu⟩ := rl_in (by have := hd.1.1; omega) hd.1.2 r0
    obtain ⟨v, hv, ev⟩ := rl_in (by have := hd.1.1; omega) hd.1.2 r1
    have h8 := hd.1.2
    have ne : ¬ u = v := fun z => r2 (by rw [ev, eu, z])
    refine ⟨n, m, c, hd, hM, hl, h4, ?_, hs, ?_⟩
    · refine ⟨t5, t6, ?_, t8⟩
      show TZ (JK (M.2 7) (vlE f ln t).toNatClampNeg (vlE f ln (nxE f ln t)).toNatClampNeg)
      rw [eu, ev, nI_clamp (by omega), nI_clamp (by omega)]
      exact (wf_JK hd.1.2 hu hv ne hL).1
    · show wfL (JK (M.2 7) (vlE f ln t).toNatClampNeg (vlE f ln (nxE f ln t)).toNatClampNeg) n
      rw [eu, ev, nI_clamp (by omega), nI_clamp (by omega)]
      exact wf_JK hd.1.2 hu hv ne hL
  · obtain ⟨r0, r1⟩ := seq2 h
    obtain ⟨u, hu, eu⟩ := rl_in (by have := hd.1.1; omega) hd.1.2 r0
    have h8 := hd.1.2
    refine ⟨n, m, c, hd, hM, hl, h4, ⟨?_, t6, t7, t8⟩, hs, hL⟩
    show TZ (upd (M.2 5) (vlE f ln t).toNatClampNeg _)
    rw [eu, nI_clamp (by omega)]
    exact upd_tz t5 (by omega)
  · obtain ⟨r0, r1⟩ := seq2 h
    obtain ⟨u, hu, eu⟩ := rl_in (by have := hd.1.1; omega) hd.1.2 r0
    obtain ⟨q, hq, eq⟩ := rl_rng 1 16 rfl rfl (by omega) (by omega) r1
    have h8 := hd.1.2
    refine ⟨n, m, c, hd, hM, hl, h4, ⟨t5, ?_, t7, t8⟩, ?_, hL⟩
    · show TZ (upd (M.2 6) (vlE f ln t).toNatClampNeg _)
      rw [eu, nI_clamp (by omega)]
      exact upd_tz t6 (by omega)
    · show shOk (upd (M.2 6) (vlE f ln t).toNatClampNeg (vlE f ln (nxE f ln t)))
      rw [eu, nI_clamp (by omega), eq]
      intro v hv
      by_cases z : v = u
      · rw [z, upd_at]
        exact ⟨q, by omega, by omega, rfl⟩
      · rw [upd_ne _ _ z]
        exact hs v hv
def rM (M D : sg_S) : Prop := (D.1 1 = M.1 0 ∧ D.1 2 = M.1 1 ∧ D.1 3 = M.1 2) ∧ D.2 0 0 = M.1 3 ∧ D.2 4 = M.2 5 ∧ seg (D.2 0) 1 = M.2 6 ∧ seg (D.2 0) 17 = M.2 7
def anR (r : Nat → Int32) (d : Int32) (i : Nat) : Nat → Int32 := fun j => if j = 0 then d else if 1 ≤ j ∧ j < 1 + i then 8 else if 9 ≤ j ∧ j < 9 + i then 0 else if 17 ≤ j ∧ j < 17 + i then 0 else r j
theorem anR_0 (r : Nat → Int32) (d : Int32) : anR r d 0 = upd r 0 d := by
  funext j
  unfold anR upd
  by_cases q : j = 0
  · rw [if_pos q, if_pos q]
  · rw [if_neg q, if_neg q, if_neg (by omega), if_neg (by omega), if_neg (by omega)]
theorem anR_s (r : Nat → Int32) (d : Int32) {i : Nat} (hi : i < 8) : upd (upd (upd (anR r d i) (1 + i) 8) (9 + i) 0) (17 + i) 0 = anR r d (i + 1) := by
  funext j
  unfold upd anR
  by_cases q1 : j = 17 + i
  · rw [if_pos q1, if_neg (by omega), if_neg (by omega), if_neg (by omega), if_pos (by omega)]
  · rw [if_neg q1]
    by_cases q2 : j = 9 + i
    · rw [if_pos q2, if_neg (by omega), if_neg (by omega), if_pos (by omega)]
    · rw [if_neg q2]
      by_cases q3 : j = 1 + i
      · rw [if_pos q3, if_neg (by omega), if_pos (by omega)]
      · rw [if_neg q3]
        by_cases a0 : j = 0
        · rw [if_pos a0, if_pos a0]
        · rw [if_neg a0, if_neg a0]
          by_cases a1 : 1 ≤ j ∧ j < 1 + i
          · rw [if_pos a1, if_pos (show 1 ≤ j ∧ j < 1 + (i + 1) by omega)]
          · rw [if_neg a1, if_neg (show ¬ (1 ≤ j ∧ j < 1 + (i + 1)) by omega)]
            by_cases a2 : 9 ≤ j ∧ j < 9 + i
            · rw [if_pos a2, if_pos (show 9 ≤ j ∧ j < 9 + (i + 1) by omega)]
            · rw [if_neg a2, if_neg (show ¬ (9 ≤ j ∧ j < 9 + (i + 1)) by omega)]
              by_cases a3 : 17 ≤ j ∧ j < 17 + i
              · rw [if_pos a3, if_pos (show 17 ≤ j ∧ j < 17 + (i + 1) by omega)]
              · rw [if_neg a3, if_neg (show ¬ (17 ≤ j ∧ j < 17 + (i + 1)) by omega)]
section DO
variable {L : Nat} {xs : Nat → Int32} {h : am_H} {c : Nat} {D : sg_S} {ln e n : Nat} {f g : Nat → Int32}
def anD (D : sg_S) (x0 x1 x2 x3 : Int32) : sg_S := (upd (upd (upd D.1 1 x0) 2 x1) 3 x2, va_up (va_up D.2 0 (anR (D.2 0) x3 8)) 4 (fillF 8 1 (D.2 4)))
theorem vu_sw {F : Nat → Nat → Int32} (a b a' : Nat → Int32) : va_up (va_up (va_up F 0 a) 4 b) 0 a' = va_up (va_up F 0 a') 4 b := by
  funext x
  unfold va_up
  by_cases e1 : x = 0
  · subst e1; rfl
  · by_cases e2 : x = 4
    · subst e2; rfl
    · simp [e1, e2]
theorem ok_anew (hc : c + 10 < h.1) {x0 x1 x2 x3 : Int32} : am_ok L xs m_X5_anew [.ref c, .int x0, .int x1, .int x2, .int x3] (ob sgD h c D) none (ob sgD h c (anD D x0 x1 x2 x3)) := by
  refine en_X5_anew (cD hc) rfl rfl (ch_X5_anew_0 ?_)
  have s0 : ∀ (S : sg_S) (x : Int32), am_sI (ob sgD h c S) .int (c + 1) 0 x = some (ob sgD h c (S.1, va_up S.2 0 (upd (S.2 0) 0 x))) := fun S x => sD_0 (i := 0) hc (by omega)
  simp only [cD hc, gD_0 hc, gD_1 hc, gD_2 hc, gD_3 hc, gD_4 hc, gD_5 hc, gD_6 hc, gD_7 hc, gD_8 hc, gD_9 hc, gD_10 hc, gD_11 hc, gD_12 hc, gD_13 hc, gD_14 hc, gD_15 hc, gD_16 hc, gD_17 hc, gD_18 hc, gD_19 hc, pD_1 hc, pD_2 hc, pD_3 hc, pD_5 hc, pD_8 hc, pD_11 hc, pD_12 hc, pD_13 hc, pD_14 hc, pD_15 hc, am_b_some, s0]
  have key := up_to (P := fun i => am_wa L xs m_X5_anew (ob sgD h c D) none (ob sgD h c (anD D x0 x1 x2 x3)) 26 [.ref c, .null, .null, .null, .null, .int (nI i)] [] (ob sgD h c (upd (upd (upd D.1 1 x0) 2 x1) 3 x2, va_up (va_up D.2 0 (anR (D.2 0) x3 i)) 4 (fillF i 1 (D.2 4))))) 8 ?_ ?_ 0 (by omega)
  · rw [anR_0, fill_0, show D.2 4 = va_up D.2 0 (upd (D.2 0) 0 x3) 4 from (vu_ne _ _ (by omega)).symm, vu_id] at key
    exact key
  · refine ch_X5_anew_26 ?_
    rw [if_neg (by decide +kernel)]
    (first | exact ⟨rfl, rfl⟩ | exact ⟨rfl, trivial⟩ | exact ⟨trivial, rfl⟩ | exact ⟨trivial, trivial⟩ | exact trivial)
  · intro i hi ih
    refine ch_X5_anew_26 ?_
    rw [if_pos (show nI i < 8 from nI_lt (b := 8) hi (by omega))]
    have e1 : (1 : Int32) + nI i = nI (1 + i) := nI_add 1 i
    have e9 : (9 : Int32) + nI i = nI (9 + i) := nI_add 9 i
    have e17 : (17 : Int32) + nI i = nI (17 + i) := nI_add 17 i
    simp only [cD hc, gD_0 hc, gD_1 hc, gD_2 hc, gD_3 hc, gD_4 hc, gD_5 hc, gD_6 hc, gD_7 hc, gD_8 hc, gD_9 hc, gD_10 hc, gD_11 hc, gD_12 hc, gD_13 hc, gD_14 hc, gD_15 hc, gD_16 hc, gD_17 hc, gD_18 hc, gD_19 hc, pD_1 hc, pD_2 hc, pD_3 hc, pD_5 hc, pD_8 hc, pD_11 hc, pD_12 hc, pD_13 hc, pD_14 hc, pD_15 hc, am_b_some, sD_4 hc hi, e1, e9, e17, sD_0 hc (show 1 + i < 372 by omega), sD_0 hc (show 9 + i < 372 by omega), sD_0 hc (show 17 + i < 372 by omega), vu_at, vu_vu, vu_sw, vu_ne _ _ (show ¬ 0 = 4 by decide), fill_s]
    rw [anR_s _ _ hi, ← nI_succ]
    exact ih
theorem seg_put0 {r k : Nat → Int32} {a : Nat} (ha : a + 8 ≤ 31) : seg (fb_put r k 0 31) a = seg k a := by
  funext v
  unfold seg
  by_cases q : v < 8
  · rw [if_pos q, if_pos q, fb_put_in (by omega) (by omega), Nat.sub_zero]
  · rw [if_neg q, if_neg q]
theorem ok_does {M : sg_S} {w t : Nat} (hc : 98 + 10 < h.1) (hw : w < 4) (hg : gdM M n) (hr : (rsR f ln n w t).1 = true) (hD : D.2 16 = rsG f ln w t g) (hM : rM M D) : ∃ D', am_ok L xs m_X5_does [.ref 98, .int (nI w)] (ob sgD h 98 D) none (ob sgD h 98 D') ∧ rM (rsM f ln w t M) D' ∧ (∀ k, ¬ k = 1 → ¬ k = 2 → ¬ k = 3 → D'.1 k = D.1 k) ∧ ∀ k, ¬ k = 0 → ¬ k = 4 → D'.2 k = D.2 k := by
  have n10 : ¬ nI 1 = nI 0 := by decide +kernel
  have n20 : ¬ nI 2 = nI 0 := by decide +kernel
  have n21 : ¬ nI 2 = nI 1 := by decide +kernel
  have n30 : ¬ nI 3 = nI 0 := by decide +kernel
  have n31 : ¬ nI 3 = nI 1 := by decide +kernel
  have n32 : ¬ nI 3 = nI 2 := by decide +kernel
  obtain ⟨m, cc, hd, hMM, hl, h4, ⟨t5, t6, t7, t8⟩, hs, hL⟩ := hg
  obtain ⟨⟨m1, m2, m3⟩, m4, m5, m6, m7⟩ := hM
  have h8 := hd.1.2
  have l0 : am_lI (ob sgD h 98 D) .int (98 + 7) 0 = some (D.2 16 0) := lD_16 (i := 0) hc (by omega)
  have l1 : am_lI (ob sgD h 98 D) .int (98 + 7) 1 = some (D.2 16 1) := lD_16 (i := 1) hc (by omega)
  have l2 : am_lI (ob sgD h 98 D) .int (98 + 7) 2 = some (D.2 16 2) := lD_16 (i := 2) hc (by omega)
  have l3 : am_lI (ob sgD h 98 D) .int (98 + 7) 3 = some (D.2 16 3) := lD_16 (i := 3) hc (by omega)
  have hw4 : w = 0 ∨ w = 1 ∨ w = 2 ∨ w = 3 := by omega
  rcases hw4 with rfl | rfl | rfl | rfl
  · refine ⟨anD D (vlE f ln t) (vlE f ln (nxE f ln t)) (vlE f ln (nxE f ln (nxE f ln t))) (vlE f ln (nxE f ln (nxE f ln (nxE f ln t)))), ?_, ?_, ?_, ?_⟩
    · refine en_X5_does (cD hc) rfl rfl (ch_X5_does_0 ⟨fun _ => ?_, fun z => absurd rfl z⟩)
      simp only [cD hc, gD_0 hc, gD_1 hc, gD_2 hc, gD_3 hc, gD_4 hc, gD_5 hc, gD_6 hc, gD_7 hc, gD_8 hc, gD_9 hc, gD_10 hc, gD_11 hc, gD_12 hc, gD_13 hc, gD_14 hc, gD_15 hc, gD_16 hc, gD_17 hc, gD_18 hc, gD_19 hc, pD_1 hc, pD_2 hc, pD_3 hc, pD_5 hc, pD_8 hc, pD_11 hc, pD_12 hc, pD_13 hc, pD_14 hc, pD_15 hc, am_b_some, l0, l1, l2, l3, hD]
      refine ⟨_, ok_anew hc, ?_⟩
      (first | exact ⟨rfl, rfl⟩ | exact ⟨rfl, trivial⟩ | exact ⟨trivial, rfl⟩ | exact ⟨trivial, trivial⟩ | exact trivial)
    · refine ⟨⟨rfl, rfl, rfl⟩, rfl, ?_, ?_, ?_⟩
      · show fillF 8 1 (D.2 4) = fillF 8 1 (M.2 5)
        rw [m5]
      · show seg (anR (D.2 0) _ 8) 1 = fillF 8 8 (M.2 6)
        funext v
        unfold seg fillF anR
        by_cases q : v < 8
        · rw [if_pos q, if_pos q, if_neg (by omega), if_pos (by omega)]
        · rw [if_neg q, if_neg q, t6 v (by omega)]
      · show seg (anR (D.2 0) _ 8) 17 = fillF 8 0 (M.2 7)
        funext v
        unfold seg fillF anR
        by_cases q : v < 8
        · rw [if_pos q, if_pos q, if_neg (by omega), if_neg (by omega), if_neg (by omega), if_pos (by omega)]
        · rw [if_neg q, if_neg q, t7 v (by omega)]
    · intro k q1 q2 q3
      show upd (upd (upd D.1 1 _) 2 _) 3 _ k = _
      rw [upd_ne _ _ q3, upd_ne _ _ q2, upd_ne _ _ q1]
    · intro k q1 q2
      show va_up (va_up D.2 0 _) 4 _ k = _
      rw [vu_ne _ _ q2, vu_ne _ _ q1]
  · obtain ⟨r0, r1, r2⟩ := lk2 hr
    obtain ⟨u, hu, eu⟩ := rl_in (by have := hd.1.1; omega) hd.1.2 r0
    obtain ⟨v, hv, ev⟩ := rl_in (by have := hd.1.1; omega) hd.1.2 r1
    have d0 : D.2 16 0 = nI u := by rw [hD]; exact eu
    have d1 : D.2 16 1 = nI v := by rw [hD]; exact ev
    have hu8 : u < 8 := by omega
    have hv8 : v < 8 := by omega
    refine ⟨dB D 0 (upd (upd (fun j => D.2 0 (0 + j)) (17 + u) (seg (fun j => D.2 0 (0 + j)) 17 u ||| (1 : Int32) <<< (nI v &&& 31))) (17 + v) (upd (seg (fun j => D.2 0 (0 + j)) 17) u (seg (fun j => D.2 0 (0 + j)) 17 u ||| (1 : Int32) <<< (nI v &&& 31)) v ||| (1 : Int32) <<< (nI u &&& 31))), en_X5_does (cD hc) rfl rfl (ch_X5_does_0 ⟨fun z => absurd z n10, fun _ => ⟨fun _ => ?_, fun z => absurd rfl z⟩⟩), ?_, ?_, ?_⟩
    · simp only [cD hc, gD_0 hc, gD_1 hc, gD_2 hc, gD_3 hc, gD_4 hc, gD_5 hc, gD_6 hc, gD_7 hc, gD_8 hc, gD_9 hc, gD_10 hc, gD_11 hc, gD_12 hc, gD_13 hc, gD_14 hc, gD_15 hc, gD_16 hc, gD_17 hc, gD_18 hc, gD_19 hc, pD_1 hc, pD_2 hc, pD_3 hc, pD_5 hc, pD_8 hc, pD_11 hc, pD_12 hc, pD_13 hc, pD_14 hc, pD_15 hc, am_b_some, l0, l1, d0, d1]
      refine ⟨_, onB (ok_joins (B := 0) hc (by omega) hu8 hv8), ?_⟩
      (first | exact ⟨rfl, rfl⟩ | exact ⟨rfl, trivial⟩ | exact ⟨trivial, rfl⟩ | exact ⟨trivial, trivial⟩ | exact trivial)
    · have eS : ∀ a, seg (fun j => D.2 0 (0 + j)) a = seg (D.2 0) a := fun a => by
        funext v
        unfold seg
        simp only [Nat.zero_add]
      have er : rsM f ln 1 t M = setL M (JK (M.2 7) u v) := by
        show lkM M (vlE f ln t) (vlE f ln (nxE f ln t)) = _
        unfold lkM
        rw [eu, ev, nI_clamp (by omega), nI_clamp (by omega)]
      rw [er]
      refine ⟨⟨m1, m2, m3⟩, ?_, m5, ?_, ?_⟩
      · refine (dB_at D 0 _ (j := 0) (by omega)).trans ?_
        rw [upd_ne _ _ (by omega), upd_ne _ _ (by omega)]
        exact m4
      · show seg (fb_put (D.2 0) _ 0 31) 1 = _
        rw [seg_put0 (by omega), seg_ne _ _ _ _ (by omega), seg_ne _ _ _ _ (by omega), eS]
        exact m6
      · show seg (fb_put (D.2 0) _ 0 31) 17 = _
        rw [seg_put0 (by omega), seg_upd _ _ hv8, seg_upd _ _ hu8, eS, m7]
        rfl
    · intro k _ _ _; rfl
    · intro k q1 q2
      exact vu_ne D.2 _ q1
  · obtain ⟨r0, r1⟩ := seq2 hr
    obtain ⟨u, hu, eu⟩ := rl_in (by have := hd.1.1; omega) hd.1.2 r0
    have d0 : D.2 16 0 = nI u := by rw [hD]; exact eu
    have d1 : D.2 16 1 = vlE f ln (nxE f ln t) := by rw [hD]; rfl
    have hu8 : u < 8 := by omega
    refine ⟨(D.1, va_up D.2 4 (upd (D.2 4) u (vlE f ln (nxE f ln t)))), en_X5_does (cD hc) rfl rfl (ch_X5_does_0 ⟨fun z => absurd z n20, fun _ => ⟨fun z => absurd z n21, fun _ => ⟨fun _ => ?_, fun z => absurd rfl z⟩⟩⟩), ?_, ?_, ?_⟩
    · simp only [cD hc, gD_0 hc, gD_1 hc, gD_2 hc, gD_3 hc, gD_4 hc, gD_5 hc, gD_6 hc, gD_7 hc, gD_8 hc, gD_9 hc, gD_10 hc, gD_11 hc, gD_12 hc, gD_13 hc, gD_14 hc, gD_15 hc, gD_16 hc, gD_17 hc, gD_18 hc, gD_19 hc, pD_1 hc, pD_2 hc, pD_3 hc, pD_5 hc, pD_8 hc, pD_11 hc, pD_12 hc, pD_13 hc, pD_14 hc, pD_15 hc, am_b_some, l0, l1, d0, d1, sD_4 hc hu8]
      (first | exact ⟨rfl, rfl⟩ | exact ⟨rfl, trivial⟩ | exact ⟨trivial, rfl⟩ | exact ⟨trivial, trivial⟩ | exact trivial)
    · refine ⟨⟨m1, m2, m3⟩, m4, ?_, m6, m7⟩
      show upd (D.2 4) u _ = upd (M.2 5) (vlE f ln t).toNatClampNeg _
      rw [eu, nI_clamp (by omega), m5]
    · intro k _ _ _; rfl
    · intro k q1 q2
      exact vu_ne D.2 _ q2
  · obtain ⟨r0, r1⟩ := seq2 hr
    obtain ⟨u, hu, eu⟩ := rl_in (by have := hd.1.1; omega) hd.1.2 r0
    have d0 : D.2 16 0 = nI u := by rw [hD]; exact eu
    have d1 : D.2 16 1 = vlE f ln (nxE f ln t) := by rw [hD]; rfl
    have hu8 : u < 8 := by omega
    have e1 : (1 : Int32) + nI u = nI (1 + u) := nI_add 1 u
    refine ⟨(D.1, va_up D.2 0 (upd (D.2 0) (1 + u) (vlE f ln (nxE f ln t)))), en_X5_does (cD hc) rfl rfl (ch_X5_does_0 ⟨fun z => absurd z n30, fun _ => ⟨fun z => absurd z n31, fun _ => ⟨fun z => absurd z n32, fun _ => ?_⟩⟩⟩), ?_, ?_, ?_⟩
    · simp only [cD hc, gD_0 hc, gD_1 hc, gD_2 hc, gD_3 hc, gD_4 hc, gD_5 hc, gD_6 hc, gD_7 hc, gD_8 hc, gD_9 hc, gD_10 hc, gD_11 hc, gD_12 hc, gD_13 hc, gD_14 hc, gD_15 hc, gD_16 hc, gD_17 hc, gD_18 hc, gD_19 hc, pD_1 hc, pD_2 hc, pD_3 hc, pD_5 hc, pD_8 hc, pD_11 hc, pD_12 hc, pD_13 hc, pD_14 hc, pD_15 hc, am_b_some, l0, l1, d0, d1, e1, sD_0 hc (show 1 + u < 372 by omega)]
      (first | exact ⟨rfl, rfl⟩ | exact ⟨rfl, trivial⟩ | exact ⟨trivial, rfl⟩ | exact ⟨trivial, trivial⟩ | exact trivial)
    · refine ⟨⟨m1, m2, m3⟩, ?_, m5, ?_, ?_⟩
      · show upd (D.2 0) (1 + u) _ 0 = _
        rw [upd_ne _ _ (by omega)]; exact m4
      · show seg (upd (D.2 0) (1 + u) _) 1 = upd (M.2 6) (vlE f ln t).toNatClampNeg _
        rw [seg_upd _ _ hu8, m6, eu, nI_clamp (by omega)]
      · show seg (upd (D.2 0) (1 + u) _) 17 = _
        rw [seg_ne _ _ _ _ (by omega)]; exact m7
    · intro k _ _ _; rfl
    · intro k q1 q2
      exact vu_ne D.2 _ q1
end DO
