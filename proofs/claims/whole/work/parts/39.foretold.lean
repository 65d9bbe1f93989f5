/-! DEEDS OF BOTH: frame; what is foretold: after, spoils; told -/
section DH
variable {L : Nat} {xs : Nat → Int32} {P : st_P} {S : Nat → sg_S} {h : am_H} {n m c : Nat}
def fI (n m c : Nat) (M : sg_S) : Nat → sg_S
  | 0 => M
  | i + 1 => frN (fI n m c M i) n c (m * c)
theorem fI_wf {M : sg_S} (hd : dims n m c) (hw : wfS M n m c) : ∀ i, wfS (fI n m c M i) n m c := by
  intro i
  induction i with
  | zero => exact hw
  | succ i ih => exact frN_wf hd ih (m * c) (Nat.le_refl _)
theorem frame1 {D M : sg_S} {B : Nat} {k : Nat → Int32} (hc : 98 + 10 < h.1) (hB : B + 31 ≤ 372) (hn : D.1 1 = nI n ∧ D.1 2 = nI m ∧ D.1 3 = nI c) (hd : dims n m c) (hw : wfS M n m c) (g0 : Nat → Int32) (hb : bOf M (D.1, va_up D.2 18 g0) k) : ∃ g k', am_ok L xs m_X5_frameOf [.ref 98, .int (nI B)] (ob sgD h 98 (dB (D.1, va_up D.2 18 g0) B k)) none (ob sgD h 98 (dB (D.1, va_up D.2 18 g) B k')) ∧ bOf (frN M n c (m * c)) (D.1, va_up D.2 18 g) k' := by
  obtain ⟨g, g1, g2⟩ := ok_frameD (L := L) (xs := xs) (h := h) (c := 98) (B := B) (D := (D.1, va_up D.2 18 g0)) (M := M) (k := k) hc hB hn hd hw hb.1
  have := bOf_fr (g := g) hd hw hb.1
  simp only [vu_vu] at g1 this
  exact ⟨g, _, g1, this⟩
theorem in12 {a : Int32} (h1 : ¬ a < 1) (h2 : ¬ (12 : Int32) < a) : ∃ N, (1 ≤ N ∧ N ≤ 12) ∧ a = nI N := by
  have z1 : (1 : Int32).toInt = 1 := by decide +kernel
  have z2 : (12 : Int32).toInt = 12 := by decide +kernel
  rw [Int32.lt_iff_toInt_lt] at h1 h2
  refine ⟨a.toInt.toNat, by omega, ?_⟩
  apply Int32.toInt_inj.mp
  rw [nI_toInt (by omega)]
  omega
theorem both_frame (hI : INVn n m c P S) {a : Int32} : both L xs P S m_X4_frame m_X5_frame [.int a] := by
  have hd := hI.1.1
  have hw := hI.1.2.2.1
  by_cases ha : ¬ a < 1 ∧ ¬ (12 : Int32) < a
  · obtain ⟨N, ⟨hN1, hN2⟩, rfl⟩ := in12 ha.1 ha.2
    obtain ⟨P1, S1, D1, hr, ⟨e0, e16⟩, hk, hn, hb, hN⟩ := deed (L := L) (xs := xs) hI
    have hcl : am_ok L xs m_X4_frame [.ref 0, .int (nI N)] (HP P S) (some (nI (pop (covered ((fI n m c (S 0) N).2 5) ((fI n m c (S 0) N).2 8) n)))) (HP P1 (va_up S1 0 (fI n m c (S 0) N))) := by
      refine en_X4_frame k_0 HP_12 HP_22 (ch_X4_frame_0 ?_)
      rw [if_neg ha.1, if_neg ha.2]
      simp only [f0_0, f0_3, am_b_some]
      refine ⟨_, hr, ?_⟩
      have key := up_to (P := fun i => am_wa L xs m_X4_frame (HP P S) (some (nI (pop (covered ((fI n m c (S 0) N).2 5) ((fI n m c (S 0) N).2 8) n)))) (HP P1 (va_up S1 0 (fI n m c (S 0) N))) 27 [.ref 0, .int (nI N), .int (nI i)] [] (HP P1 (va_up S1 0 (fI n m c (S 0) i)))) N ?_ ?_ 0 (by omega)
      · rw [show fI n m c (S 0) 0 = S1 0 from e0.symm, vu_id] at key
        exact key
      · refine ch_X4_frame_27 ?_
        rw [if_neg (nI_irr N)]
        simp only [f0_0, am_b_some]
        refine ⟨_, _, cCov hd (n := n) (m := m) (c := c) (by rw [vu_at]; exact fI_wf hd hw N), _, _, ok_bitCount (sm_bs hd.1.2), ?_⟩
        rw [vu_at]
        first | exact ⟨fit_i _, rfl, rfl⟩ | exact ⟨fit_i _, rfl, trivial⟩
      · intro i hi ih
        refine ch_X4_frame_27 ?_
        rw [if_pos (nI_lt hi (by omega))]
        simp only [f0_0, am_b_some]
        have call := onN (P := P1) (S := va_up S1 0 (fI n m c (S 0) i)) (ok_frameM (L := L) (xs := xs) bN hd (by rw [vu_at]; exact fI_wf hd hw i))
        rw [vu_vu, vu_at] at call
        refine ⟨_, call, ?_⟩
        rw [← nI_succ]
        exact ih
    generalize hH : HP P1 (va_up S1 0 (fI n m c (S 0) N)) = H at hcl
    have hc : 98 + 10 < H.1 := by rw [← hH]; exact bD
    have main : ∀ i, i ≤ N → ∃ g k, bOf (fI n m c (S 0) i) (D1.1, va_up D1.2 18 g) k ∧ ∀ (R : Option Int32) (A E : am_H), am_wa L xs m_X5_frame A R E 21 [.ref 98, .int (nI N), .int (nI i)] [] (ob sgD H 98 (dB (D1.1, va_up D1.2 18 g) 0 k)) → am_wa L xs m_X5_frame A R E 21 [.ref 98, .int (nI N), .int (nI 0)] [] (ob sgD H 98 D1) := by
      intro i
      induction i with
      | zero =>
        intro _
        refine ⟨D1.2 18, fun j => D1.2 0 (0 + j), ?_, fun R A E hwa => ?_⟩
        · rw [vu_id]; exact hb
        · rw [vu_id] at hwa
          have e := dB_id D1 0
          rw [show dB (D1.1, D1.2) 0 (fun j => D1.2 0 (0 + j)) = dB D1 0 (fun j => D1.2 0 (0 + j)) from rfl, e] at hwa
          exact hwa
      | succ i ih =>
        intro hi
        obtain ⟨g, k, g1, g2⟩ := ih (by omega)
        obtain ⟨g', k', g3, g4⟩ := frame1 (L := L) (xs := xs) (h := H) (B := 0) (D := D1) hc (by omega) hn hd (fI_wf hd hw i) g g1
        refine ⟨g', k', g4, fun R A E hwa => g2 R A E (ch_X5_frame_21 ?_)⟩
        rw [if_pos (nI_lt (by omega) (by omega))]
        refine ⟨_, g3, ?_⟩
        rw [← nI_succ]
        exact hwa
    obtain ⟨g, k, g1, g2⟩ := main N (Nat.le_refl _)
    have I2 := hN (fI n m c (S 0) N) k g (fI_wf hd hw N) (bOf_cong (D := (D1.1, va_up D1.2 18 g)) rfl (fun _ _ => rfl) g1)
    refine both_at (P' := P1) (S1 := va_up S1 0 (fI n m c (S 0) N)) (x := nI (pop (covered ((fI n m c (S 0) N).2 5) ((fI n m c (S 0) N).2 8) n))) ⟨n, m, c, I2⟩ ((vu_ne _ _ (by omega)).trans e16) (by rw [hH]; exact hcl) ?_
    rw [hH]
    refine en_X5_frame (cD hc) rfl rfl (ch_X5_frame_0 ⟨_, _, ok_in, ?_⟩)
    rw [if_neg (nI_yes (decide_eq_true ha))]
    refine ⟨_, hk H hc, ?_⟩
    refine g2 _ _ _ (ch_X5_frame_21 ?_)
    rw [if_neg (nI_irr N)]
    refine ⟨_, _, ok_coveredD (B := 0) (D := (D1.1, va_up D1.2 18 g)) hc (by omega) hn.1 hd.1.2, _, _, ok_ones, ?_⟩
    rw [g1.1.1.1, g1.1.1.2.2.2]
    first | exact ⟨fit_i _, rfl, rfl⟩ | exact ⟨fit_i _, rfl, trivial⟩
  · refine both_same ⟨n, m, c, hI⟩ (x := -3) ?_ (fun h hc => ?_)
    · refine en_X4_frame k_0 rfl rfl (ch_X4_frame_0 ?_)
      by_cases q : a < 1
      · rw [if_pos q]; (first | exact ⟨fit_i _, rfl, rfl⟩ | exact ⟨fit_i _, rfl, trivial⟩ | exact ⟨fit_i _, trivial, rfl⟩ | exact ⟨fit_i _, trivial, trivial⟩)
      · rw [if_neg q, if_pos (Classical.byContradiction fun z => ha ⟨q, z⟩)]; (first | exact ⟨fit_i _, rfl, rfl⟩ | exact ⟨fit_i _, rfl, trivial⟩ | exact ⟨fit_i _, trivial, rfl⟩ | exact ⟨fit_i _, trivial, trivial⟩)
    · refine en_X5_frame (cD hc) rfl rfl (ch_X5_frame_0 ⟨_, _, ok_in, ?_⟩)
      rw [if_pos (nI_no (decide_eq_false ha))]; (first | exact ⟨fit_i _, rfl, rfl⟩ | exact ⟨fit_i _, rfl, trivial⟩ | exact ⟨fit_i _, trivial, rfl⟩ | exact ⟨fit_i _, trivial, trivial⟩)
/-- the trial mesh and the reference's tried block change -/
theorem INV_tried (hI : INVn n m c P S) {M : sg_S} {k g : Nat → Int32} (hz : tz4 M) : INVn n m c P (va_up (va_up S 1 M) 16 (dB ((S 16).1, va_up (S 16).2 18 g) 341 k)) := by
  obtain ⟨⟨a1, a2, a3⟩, ⟨x, u, b1, b2, b3⟩, hK, hT, hX, hZ⟩ := hI
  have e16 : va_up (va_up S 1 M) 16 (dB ((S 16).1, va_up (S 16).2 18 g) 341 k) 16 = dB ((S 16).1, va_up (S 16).2 18 g) 341 k := vu_at _ _ _
  have e1 : va_up (va_up S 1 M) 16 (dB ((S 16).1, va_up (S 16).2 18 g) 341 k) 1 = M := by rw [vu_ne _ _ (by omega), vu_at]
  have ej : ∀ j, ¬ j = 16 → ¬ j = 1 → va_up (va_up S 1 M) 16 (dB ((S 16).1, va_up (S 16).2 18 g) 341 k) j = S j := fun j q1 q2 => by rw [vu_ne _ _ q1, vu_ne _ _ q2]
  have ek : ∀ i, ¬ i = 0 → ¬ i = 18 → (dB ((S 16).1, va_up (S 16).2 18 g) 341 k).2 i = (S 16).2 i := fun i q1 q2 => by
    show va_up (va_up (S 16).2 18 g) 0 _ i = _
    rw [vu_ne _ _ q1, vu_ne _ _ q2]
  have ep : ∀ j, j < 341 → (dB ((S 16).1, va_up (S 16).2 18 g) 341 k).2 0 j = (S 16).2 0 j := fun j hj => by
    rw [dB_0, fb_put_out (by omega)]
    show va_up (S 16).2 18 g 0 j = _
    rw [vu_ne _ _ (by omega)]
  refine ⟨⟨a1, ?_, ?_⟩, ⟨x, u, b1, ?_, fun i hi => ?_⟩, fun q hq => ?_, fun s hs => ?_, ?_, fun j hj => ?_⟩
  · rw [e16, dB_1]; exact a2
  · rw [e16, ej 0 (by omega) (by omega)]
    exact iM_cong (ek 4 (by omega) (by omega)) (fun j hj => ep _ (by omega)) a3
  · rw [e16, dB_1]; exact b2
  · rw [e16, ej _ (by omega) (by omega)]
    exact iM_cong (ek 4 (by omega) (by omega)) (fun j hj => ep _ (by omega)) (b3 i hi)
  · rw [e16, ej _ (by omega) (by omega), ek 6 (by omega) (by omega)]
    refine ⟨(hK q hq).1, ?_⟩
    rcases (hK q hq).2 with z | ⟨z1, z2⟩
    · exact Or.inl z
    · exact Or.inr ⟨z1, iM_cong (ek 4 (by omega) (by omega)) (fun j hj => ep _ (by omega)) z2⟩
  · rw [e16, ej _ (by omega) (by omega)]
    unfold okT
    rw [ek 9 (by omega) (by omega), ek 10 (by omega) (by omega)]
    exact hT s hs
  · unfold iX
    rw [e16, ej 12 (by omega) (by omega), dB_1, ek 7 (by omega) (by omega), ek 17 (by omega) (by omega)]
    exact hX
  · by_cases q : j = 1
    · rw [q, e1]; exact hz
    · rw [ej j (by omega) q]; exact hZ j hj
def afR (n m c : Nat) : Nat → sg_S → Nat → Int32 × sg_S
  | 0, M, i => (if allC (M.2 5) (M.2 8) n then nI i else -1, M)
  | f + 1, M, i => if allC (M.2 5) (M.2 8) n then (nI i, M) else afR n m c f (frN M n c (m * c)) (i + 1)
theorem afR_wf (hd : dims n m c) : ∀ f M i, wfS M n m c → wfS (afR n m c f M i).2 n m c := by
  intro f
  induction f with
  | zero => intro M i h; exact h
  | succ f ih =>
    intro M i h
    unfold afR
    split
    · exact h
    · exact ih _ _ (frN_wf hd h (m * c) (Nat.le_refl _))
theorem afC {A : am_H} (hd : dims n m c) : ∀ f i M, i + f = 12 → wfS M n m c → am_wa L xs m_X4_after A (some (afR n m c f M i).1) (HP P (va_up S 1 (afR n m c f M i).2)) 13 [.ref 0, .int (nI i)] [] (HP P (va_up S 1 M)) := by
  have dn : ∀ M, wfS M n m c → am_ok L xs m_X0_isDone [.ref 8] (HP P (va_up S 1 M)) (some (if allC (M.2 5) (M.2 8) n then 1 else 0)) (HP P (va_up S 1 M)) := fun M hw => by
    have := onT0 (L := L) (xs := xs) (P := P) (S := va_up S 1 M) (ok_isDone (n := n) bT (by rw [vu_at]; exact hw.1.1) hd.1.2 (by rw [vu_at]; exact fun _ hv => wfH_sm hw.2.2.2.2.2.2 hd.2.1.2 hv))
    rwa [vu_at] at this
  intro f
  induction f with
  | zero =>
    intro i M hi hw
    have ei : i = 12 := by omega
    subst ei
    refine ch_X4_after_13 ?_
    rw [if_neg (by decide +kernel)]
    simp only [f0_1, am_b_some]
    refine ⟨_, _, dn M hw, ?_⟩
    unfold afR
    cases e : allC (M.2 5) (M.2 8) n
    · rw [if_pos (by rfl)]
      first | exact ⟨fit_i _, rfl, rfl⟩ | exact ⟨fit_i _, rfl, trivial⟩
    · rw [if_neg (by decide)]
      first | exact ⟨fit_i _, rfl, rfl⟩ | exact ⟨fit_i _, rfl, trivial⟩
  | succ f ih =>
    intro i M hi hw
    refine ch_X4_after_13 ?_
    rw [if_pos (show nI i < 12 from nI_lt (b := 12) (by omega) (by omega))]
    simp only [f0_1, am_b_some]
    refine ⟨_, _, dn M hw, ?_⟩
    unfold afR
    cases e : allC (M.2 5) (M.2 8) n
    · rw [if_pos (by rfl)]
      simp only [f0_1, am_b_some]
      have call := onT (P := P) (S := va_up S 1 M) (ok_frameM (L := L) (xs := xs) bT hd (by rw [vu_at]; exact hw))
      rw [vu_vu, vu_at] at call
      refine ⟨_, call, ?_⟩
      rw [← nI_succ]
      exact ih (i + 1) _ (by omega) (frN_wf hd hw (m * c) (Nat.le_refl _))
    · rw [if_neg (by decide)]
      first | exact ⟨fit_i _, rfl, rfl⟩ | exact ⟨fit_i _, rfl, trivial⟩
theorem afD {A : am_H} {D : sg_S} (hc : 98 + 10 < h.1) (hn : D.1 1 = nI n ∧ D.1 2 = nI m ∧ D.1 3 = nI c) (hd : dims n m c) : ∀ f i M g k, i + f = 12 → wfS M n m c → bOf M (D.1, va_up D.2 18 g) k → ∃ g' k', am_wa L xs m_X5_after A (some (afR n m c f M i).1) (ob sgD h 98 (dB (D.1, va_up D.2 18 g') 341 k')) 10 [.ref 98, .int (nI i)] [] (ob sgD h 98 (dB (D.1, va_up D.2 18 g) 341 k)) := by
  have dn : ∀ M g k, bOf M (D.1, va_up D.2 18 g) k → am_ok L xs m_X5_isDone [.ref 98, .int (nI 341)] (ob sgD h 98 (dB (D.1, va_up D.2 18 g) 341 k)) (some (if allC (M.2 5) (M.2 8) n then 1 else 0)) (ob sgD h 98 (dB (D.1, va_up D.2 18 g) 341 k)) := fun M g k hb => by
    have := ok_isDoneD (L := L) (xs := xs) (B := 341) (D := (D.1, va_up D.2 18 g)) (k := k) hc (by omega) hn.1 hd.1.2
    rwa [hb.1.1.1, hb.1.1.2.2.2] at this
  intro f
  induction f with
  | zero =>
    intro i M g k hi hw hb
    have ei : i = 12 := by omega
    subst ei
    refine ⟨g, k, ch_X5_after_10 ?_⟩
    rw [if_neg (by decide +kernel)]
    refine ⟨_, _, dn M g k hb, ?_⟩
    unfold afR
    cases e : allC (M.2 5) (M.2 8) n
    · rw [if_pos (by rfl)]
      first | exact ⟨fit_i _, rfl, rfl⟩ | exact ⟨fit_i _, rfl, trivial⟩
    · rw [if_neg (by decide)]
      first | exact ⟨fit_i _, rfl, rfl⟩ | exact ⟨fit_i _, rfl, trivial⟩
  | succ f ih =>
    intro i M g k hi hw hb
    cases e : allC (M.2 5) (M.2 8) n
    · obtain ⟨g1, k1, c1, c2⟩ := frame1 (L := L) (xs := xs) (h := h) (B := 341) (D := D) hc (by omega) hn hd hw g hb
      obtain ⟨g2, k2, c3⟩ := ih (i + 1) _ g1 k1 (by omega) (frN_wf hd hw (m * c) (Nat.le_refl _)) c2
      refine ⟨g2, k2, ch_X5_after_10 ?_⟩
      rw [if_pos (show nI i < 12 from nI_lt (b := 12) (by omega) (by omega))]
      have d1 := dn M g k hb
      rw [e] at d1
      refine ⟨_, _, d1, ?_⟩
      rw [if_pos (by rfl)]
      refine ⟨_, c1, ?_⟩
      unfold afR
      rw [e, ← nI_succ]
      exact c3
    · refine ⟨g, k, ch_X5_after_10 ?_⟩
      rw [if_pos (show nI i < 12 from nI_lt (b := 12) (by omega) (by omega))]
      have d1 := dn M g k hb
      rw [e] at d1
      refine ⟨_, _, d1, ?_⟩
      rw [if_neg (by decide)]
      refine ⟨_, _, d1, ?_⟩
      rw [if_neg (by decide)]
      unfold afR
      rw [e]
      first | exact ⟨fit_i _, rfl, rfl⟩ | exact ⟨fit_i _, rfl, trivial⟩
theorem both_after (hI : INVn n m c P S) : both L xs P S m_X4_after m_X5_after [] := by
  have hd := hI.1.1
  have hw := hI.1.2.2.1
  have hZ := hI.2.2.2.2.2
  have hw1 : wfS (cpyM (S 1) (S 0)) n m c := cpy_wf (hZ 1 (by omega)) (hZ 0 (by omega)) hw
  have hb1 : bOf (cpyM (S 1) (S 0)) (S 16) (fun j => (S 16).2 0 (0 + j)) := cpy_bOf (hZ 1 (by omega)) (hZ 0 (by omega)) hI.1.2.2.2
  generalize hC : cpyM (S 1) (S 0) = C at hw1 hb1
  obtain ⟨g', k', hD⟩ := afD (L := L) (xs := xs) (h := HP P (va_up S 1 (afR n m c 12 C 0).2)) (A := ob sgD (HP P (va_up S 1 (afR n m c 12 C 0).2)) 98 (S 16)) (D := S 16) bD hI.1.2.1 hd 12 0 C ((S 16).2 18) (fun j => (S 16).2 0 (0 + j)) rfl hw1 (by rw [vu_id]; exact hb1)
  refine both_at (x := (afR n m c 12 C 0).1) (P' := P) (S1 := va_up S 1 (afR n m c 12 C 0).2) (D' := dB ((S 16).1, va_up (S 16).2 18 g') 341 k') ⟨n, m, c, INV_tried hI (wf_tz (afR_wf hd 12 C 0 hw1))⟩ (vu_ne _ _ (by omega)) ?_ ?_
  · refine en_X4_after k_0 HP_12 HP_22 (ch_X4_after_0 ?_)
    simp only [f0_0, f0_1, am_b_some]
    refine ⟨_, cpy (jb := 1) (jc := 0) 8 1 (fun S N => foT) (fun S N => foN) (by omega) (by omega) (by omega) hw.2.2.1, ?_⟩
    rw [hC]
    exact afC hd 12 0 C rfl hw1
  · refine en_X5_after (cD bD) rfl rfl (ch_X5_after_0 ?_)
    refine ⟨_, ok_copyRow (A := 0) (B := 341) bD (by omega) (by omega) (by omega), ?_⟩
    rw [vu_id] at hD
    exact hD
theorem both_spoils (hI : INVn n m c P S) {a b : Int32} : both L xs P S m_X4_spoils m_X5_spoils [.int a, .int b] := by
  have hd := hI.1.1
  have hw := hI.1.2.2.1
  have hM := hI.1.2.2.2.1
  have h8 := hd.1.2
  have hZ := hI.2.2.2.2.2
  cases hv : isTwo n a b
  · refine both_same ⟨n, m, c, hI⟩ (x := -2) ?_ (fun h hc => ?_)
    · refine en_X4_spoils k_0 rfl rfl (ch_X4_spoils_0 ?_)
      simp only [f0_0, am_b_some]
      refine ⟨_, _, cPa hI, ?_⟩
      rw [if_pos (nI_no hv)]; (first | exact ⟨fit_i _, rfl, rfl⟩ | exact ⟨fit_i _, rfl, trivial⟩ | exact ⟨fit_i _, trivial, rfl⟩ | exact ⟨fit_i _, trivial, trivial⟩)
    · refine en_X5_spoils (cD hc) rfl rfl (ch_X5_spoils_0 ⟨_, _, dTw hI hc, ?_⟩)
      rw [if_pos (nI_no hv)]; (first | exact ⟨fit_i _, rfl, rfl⟩ | exact ⟨fit_i _, rfl, trivial⟩ | exact ⟨fit_i _, trivial, rfl⟩ | exact ⟨fit_i _, trivial, trivial⟩)
  · obtain ⟨u, v, ⟨hu, hvn, ne⟩, rfl, rfl⟩ := two_val h8 hv
    have hu8 : u < 8 := by omega
    have hv8 : v < 8 := by omega
    have j17 : (17 : Int32) + nI u = nI (0 + (17 + u)) := by rw [Nat.zero_add]; exact nI_add 17 u
    have b17 : (S 16).2 0 (0 + (17 + u)) = (S 0).2 7 u := by
      have := congrFun hM.1.2.2.1 u
      rw [seg_at _ _ hu8] at this
      exact this
    cases hh : bt ((S 0).2 7 u) v
    · have hw1 : wfS (cpyM (S 1) (S 0)) n m c := cpy_wf (hZ 1 (by omega)) (hZ 0 (by omega)) hw
      have hb1 : bOf (cpyM (S 1) (S 0)) (S 16) (fun j => (S 16).2 0 (0 + j)) := cpy_bOf (hZ 1 (by omega)) (hZ 0 (by omega)) hI.1.2.2.2
      generalize hC : cpyM (S 1) (S 0) = C at hw1 hb1
      have hB := bOf_setL (k' := upd (upd (fun j => (S 16).2 0 (0 + j)) (17 + u) (seg (fun j => (S 16).2 0 (0 + j)) 17 u ||| (1 : Int32) <<< (nI v &&& 31))) (17 + v) (upd (seg (fun j => (S 16).2 0 (0 + j)) 17) u (seg (fun j => (S 16).2 0 (0 + j)) 17 u ||| (1 : Int32) <<< (nI v &&& 31)) v ||| (1 : Int32) <<< (nI u &&& 31))) (K := JK (C.2 7) u v) hb1 (by rw [upd_ne _ _ (by omega), upd_ne _ _ (by omega)]) (by rw [seg_ne _ _ _ _ (by omega), seg_ne _ _ _ _ (by omega)]) (by rw [seg_ne _ _ _ _ (by omega), seg_ne _ _ _ _ (by omega)]) (by rw [seg_upd _ _ hv8, seg_upd _ _ hu8, hb1.1.1.2.2.1]; rfl) (by rw [upd_ne _ _ (by omega), upd_ne _ _ (by omega)]) (fun p hp => by rw [upd_ne _ _ (by omega), upd_ne _ _ (by omega)])
      have hw2 := wf_setL hw1 (wf_JK h8 hu hvn ne hw1.2.2.2.2.2.1)
      generalize hK' : upd (upd (fun j => (S 16).2 0 (0 + j)) (17 + u) (seg (fun j => (S 16).2 0 (0 + j)) 17 u ||| (1 : Int32) <<< (nI v &&& 31))) (17 + v) (upd (seg (fun j => (S 16).2 0 (0 + j)) 17) u (seg (fun j => (S 16).2 0 (0 + j)) 17 u ||| (1 : Int32) <<< (nI v &&& 31)) v ||| (1 : Int32) <<< (nI u &&& 31)) = K' at hB
      have I2 := INV_tried hI (M := setL C (JK (C.2 7) u v)) (k := K') (g := (S 16).2 18) (wf_tz hw2)
      rw [vu_id] at I2
      have ec : clN (JK (C.2 7) u v) (C.2 8) n (((1 : Int32) <<< (nI m &&& 31)) - 1) = fb_sm (fun s => cdN (JK (C.2 7) u v) (C.2 8) n s / 2) m := clash_all hw2.2.2.2.2.2.1 h8 (by have := hd.2.1.2; omega)
      have ec0 : clN ((S 0).2 7) ((S 0).2 8) n (((1 : Int32) <<< (nI m &&& 31)) - 1) = fb_sm (fun s => cdN ((S 0).2 7) ((S 0).2 8) n s / 2) m := clash_all hw.2.2.2.2.2.1 h8 (by have := hd.2.1.2; omega)
      refine both_of (x := nI (clN (JK (C.2 7) u v) (C.2 8) n (((1 : Int32) <<< (nI m &&& 31)) - 1)) - nI (clN ((S 0).2 7) ((S 0).2 8) n (((1 : Int32) <<< (nI m &&& 31)) - 1))) ⟨n, m, c, I2⟩ (vu_ne _ _ (by omega)) ?_ (fun h hc => ?_)
      · refine en_X4_spoils k_0 HP_12 HP_22 (ch_X4_spoils_0 ?_)
        simp only [f0_0, am_b_some]
        refine ⟨_, _, cPa hI, ?_⟩
        rw [if_neg (nI_yes hv)]
        simp only [f0_0, gN_7, lN_7 hu8, am_b_some]
        refine ⟨_, _, ok_has (by omega), ?_⟩
        rw [if_pos (nI_no hh)]
        simp only [f0_0, f0_1, am_b_some]
        refine ⟨_, cpy (jb := 1) (jc := 0) 8 1 (fun S N => foT) (fun S N => foN) (by omega) (by omega) (by omega) hw.2.2.1, ?_⟩
        rw [hC]
        simp only [f0_1, am_b_some]
        have call := onT (P := P) (S := va_up S 1 C) (ok_link (L := L) (xs := xs) bT hu8 hv8)
        rw [vu_vu, vu_at] at call
        refine ⟨_, call, ?_⟩
        simp only [f0_1, am_b_some]
        have call2 := onT0 (L := L) (xs := xs) (P := P) (S := va_up S 1 (setL C (JK (C.2 7) u v))) (ok_clashes (n := n) (m := m) bT (by rw [vu_at]; exact hw2.1.1) h8 (by rw [vu_at]; exact hw2.1.2.1) (by rw [vu_at]; exact fun _ hv => wfH_sm hw2.2.2.2.2.2.2 hd.2.1.2 hv))
        rw [vu_at] at call2
        refine ⟨_, _, call2, ?_⟩
        simp only [f0_0, am_b_some]
        have call3 := onN0 (L := L) (xs := xs) (P := P) (S := va_up S 1 (setL C (JK (C.2 7) u v))) (ok_clashes (n := n) (m := m) bN (by rw [vu_ne _ _ (by omega)]; exact hw.1.1) h8 (by rw [vu_ne _ _ (by omega)]; exact hw.1.2.1) (by rw [vu_ne _ _ (by omega)]; exact fun _ hv => wfH_sm hw.2.2.2.2.2.2 hd.2.1.2 hv))
        rw [vu_ne _ _ (show ¬ 0 = 1 by omega)] at call3
        refine ⟨_, _, call3, ?_⟩
        first | exact ⟨fit_i _, rfl, rfl⟩ | exact ⟨fit_i _, rfl, trivial⟩
      · refine en_X5_spoils (cD hc) rfl rfl (ch_X5_spoils_0 ⟨_, _, dTw hI hc, ?_⟩)
        rw [if_neg (nI_yes hv)]
        simp only [cD hc, gD_0 hc, gD_1 hc, gD_2 hc, gD_3 hc, gD_4 hc, gD_5 hc, gD_6 hc, gD_7 hc, gD_8 hc, gD_9 hc, gD_10 hc, gD_11 hc, gD_12 hc, gD_13 hc, gD_14 hc, gD_15 hc, gD_16 hc, gD_17 hc, gD_18 hc, gD_19 hc, pD_1 hc, pD_2 hc, pD_3 hc, pD_5 hc, pD_8 hc, pD_11 hc, pD_12 hc, pD_13 hc, pD_14 hc, pD_15 hc, am_b_some, j17, lD_0 hc (show 0 + (17 + u) < 372 by omega), b17]
        refine ⟨_, _, ok_hasD (by omega), ?_⟩
        rw [if_pos (nI_no hh)]
        have cj := ok_joins (L := L) (xs := xs) (B := 341) (D := S 16) (k := fun j => (S 16).2 0 (0 + j)) hc (by omega) hu8 hv8
        rw [hK'] at cj
        refine ⟨_, ok_copyRow (A := 0) (B := 341) hc (by omega) (by omega) (by omega), _, cj, _, _, ok_clashesD (B := 341) hc (by omega) hI.1.2.1.1 hI.1.2.1.2.1 h8 hd.2.1.2, ?_⟩
        generalize hD2 : dB (S 16) 341 K' = D2
        have dM : bOf (S 0) D2 (fun j => D2.2 0 (0 + j)) := by
          refine bOf_cong (D := S 16) (by rw [← hD2]; rfl) (fun j hj => ?_) hI.1.2.2.2
          rw [← hD2, dB_0, fb_put_out (by omega)]
        have d1 : D2.1 = (S 16).1 := by rw [← hD2]; rfl
        refine ⟨_, _, onB0 (ok_clashesD (B := 0) hc (by omega) (by rw [d1]; exact hI.1.2.1.1) (by rw [d1]; exact hI.1.2.1.2.1) h8 hd.2.1.2), ?_⟩
        rw [hB.1.1.2.2.1, hB.1.1.2.2.2, dM.1.1.2.2.1, dM.1.1.2.2.2, ec, ec0]
        refine ⟨fit_i _, rfl, ?_⟩
        rw [← hD2]
    · refine both_same ⟨n, m, c, hI⟩ (x := -4) ?_ (fun h hc => ?_)
      · refine en_X4_spoils k_0 rfl rfl (ch_X4_spoils_0 ?_)
        simp only [f0_0, am_b_some]
        refine ⟨_, _, cPa hI, ?_⟩
        rw [if_neg (nI_yes hv)]
        simp only [f0_0, gN_7, lN_7 hu8, am_b_some]
        refine ⟨_, _, ok_has (by omega), ?_⟩
        rw [if_neg (nI_yes hh)]; (first | exact ⟨fit_i _, rfl, rfl⟩ | exact ⟨fit_i _, rfl, trivial⟩ | exact ⟨fit_i _, trivial, rfl⟩ | exact ⟨fit_i _, trivial, trivial⟩)
      · refine en_X5_spoils (cD hc) rfl rfl (ch_X5_spoils_0 ⟨_, _, dTw hI hc, ?_⟩)
        rw [if_neg (nI_yes hv)]
        simp only [cD hc, gD_0 hc, gD_1 hc, gD_2 hc, gD_3 hc, gD_4 hc, gD_5 hc, gD_6 hc, gD_7 hc, gD_8 hc, gD_9 hc, gD_10 hc, gD_11 hc, gD_12 hc, gD_13 hc, gD_14 hc, gD_15 hc, gD_16 hc, gD_17 hc, gD_18 hc, gD_19 hc, pD_1 hc, pD_2 hc, pD_3 hc, pD_5 hc, pD_8 hc, pD_11 hc, pD_12 hc, pD_13 hc, pD_14 hc, pD_15 hc, am_b_some, j17, lD_0 hc (show 0 + (17 + u) < 372 by omega), b17]
        refine ⟨_, _, ok_hasD (by omega), ?_⟩
        rw [if_neg (nI_yes hh)]; (first | exact ⟨fit_i _, rfl, rfl⟩ | exact ⟨fit_i _, rfl, trivial⟩ | exact ⟨fit_i _, trivial, rfl⟩ | exact ⟨fit_i _, trivial, trivial⟩)
theorem ok_lengthX {X : sg_S} {b : Nat} (hb : b + 1 < h.1) : am_ok L xs m_X3_length [.ref b] (ob sgX h b X) (some (X.1 1)) (ob sgX h b X) := by
  refine en_X3_length (cX hb) rfl rfl (ch_X3_length_0 ?_)
  simp only [cX hb, gX_0 hb, gX_1 hb, gX_2 hb, gX_3 hb, gX_4 hb, gX_5 hb, pX_1 hb, pX_2 hb, pX_3 hb, pX_4 hb, pX_5 hb, am_b_some]; (first | exact ⟨fit_i _, rfl, rfl⟩ | exact ⟨fit_i _, rfl, trivial⟩ | exact ⟨fit_i _, trivial, rfl⟩ | exact ⟨fit_i _, trivial, trivial⟩)
theorem both_told (hI : INVn n m c P S) {a : Int32} : both L xs P S m_X4_told m_X5_told [.int a] := by
  have hd := hI.1.1
  have hw := hI.1.2.2.1
  have hM := hI.1.2.2.2.1
  have h8 := hd.1.2
  have hsm : ∀ v, v < 8 → sm ((S 0).2 8 v) := fun _ hv => wfH_sm hw.2.2.2.2.2.2 hd.2.1.2 hv
  obtain ⟨x, u, ⟨hx, hu⟩, ⟨e1, e2, e3⟩, hb⟩ := hI.2.1
  obtain ⟨⟨ln, x0, x1, x2, x3⟩, x4⟩ := hI.2.2.2.2.1
  obtain ⟨z, hz1, hz2⟩ := nums_all (L := L) (xs := xs) (P := P) (S := S) ⟨n, m, c, hI⟩
  by_cases q0 : a = nI 0
  · refine both_same ⟨n, m, c, hI⟩ (x := nI n) ?_ (fun h hc => ?_)
    · refine en_X4_told k_0 rfl rfl (ch_X4_told_0 ?_)
      refine ⟨fun _ => ?_, fun z => absurd q0 z⟩
      simp only [f0_0, gN (show 0 < 5 by omega), am_b_some, hw.1.1]; (first | exact ⟨fit_i _, rfl, rfl⟩ | exact ⟨fit_i _, rfl, trivial⟩ | exact ⟨fit_i _, trivial, rfl⟩ | exact ⟨fit_i _, trivial, trivial⟩)
    · refine en_X5_told (cD hc) rfl rfl (ch_X5_told_0 ?_)
      refine ⟨fun _ => ?_, fun z => absurd q0 z⟩
      simp only [cD hc, gD_0 hc, gD_1 hc, gD_2 hc, gD_3 hc, gD_4 hc, gD_5 hc, gD_6 hc, gD_7 hc, gD_8 hc, gD_9 hc, gD_10 hc, gD_11 hc, gD_12 hc, gD_13 hc, gD_14 hc, gD_15 hc, gD_16 hc, gD_17 hc, gD_18 hc, gD_19 hc, pD_1 hc, pD_2 hc, pD_3 hc, pD_5 hc, pD_8 hc, pD_11 hc, pD_12 hc, pD_13 hc, pD_14 hc, pD_15 hc, am_b_some, hI.1.2.1.1]; (first | exact ⟨fit_i _, rfl, rfl⟩ | exact ⟨fit_i _, rfl, trivial⟩ | exact ⟨fit_i _, trivial, rfl⟩ | exact ⟨fit_i _, trivial, trivial⟩)
  by_cases q1 : a = nI 1
  · refine both_same ⟨n, m, c, hI⟩ (x := nI m) ?_ (fun h hc => ?_)
    · refine en_X4_told k_0 rfl rfl (ch_X4_told_0 ?_)
      refine ⟨fun z => absurd z q0, fun _ => ⟨fun _ => ?_, fun z => absurd q1 z⟩⟩
      simp only [f0_0, gN (show 1 < 5 by omega), am_b_some, hw.1.2.1]; (first | exact ⟨fit_i _, rfl, rfl⟩ | exact ⟨fit_i _, rfl, trivial⟩ | exact ⟨fit_i _, trivial, rfl⟩ | exact ⟨fit_i _, trivial, trivial⟩)
    · refine en_X5_told (cD hc) rfl rfl (ch_X5_told_0 ?_)
      refine ⟨fun z => absurd z q0, fun _ => ⟨fun _ => ?_, fun z => absurd q1 z⟩⟩
      simp only [cD hc, gD_0 hc, gD_1 hc, gD_2 hc, gD_3 hc, gD_4 hc, gD_5 hc, gD_6 hc, gD_7 hc, gD_8 hc, gD_9 hc, gD_10 hc, gD_11 hc, gD_12 hc, gD_13 hc, gD_14 hc, gD_15 hc, gD_16 hc, gD_17 hc, gD_18 hc, gD_19 hc, pD_1 hc, pD_2 hc, pD_3 hc, pD_5 hc, pD_8 hc, pD_11 hc, pD_12 hc, pD_13 hc, pD_14 hc, pD_15 hc, am_b_some, hI.1.2.1.2.1]; (first | exact ⟨fit_i _, rfl, rfl⟩ | exact ⟨fit_i _, rfl, trivial⟩ | exact ⟨fit_i _, trivial, rfl⟩ | exact ⟨fit_i _, trivial, trivial⟩)
  by_cases q2 : a = nI 2
  · refine both_same ⟨n, m, c, hI⟩ (x := nI c) ?_ (fun h hc => ?_)
    · refine en_X4_told k_0 rfl rfl (ch_X4_told_0 ?_)
      refine ⟨fun z => absurd z q0, fun _ => ⟨fun z => absurd z q1, fun _ => ⟨fun _ => ?_, fun z => absurd q2 z⟩⟩⟩
      simp only [f0_0, gN (show 2 < 5 by omega), am_b_some, hw.1.2.2]; (first | exact ⟨fit_i _, rfl, rfl⟩ | exact ⟨fit_i _, rfl, trivial⟩ | exact ⟨fit_i _, trivial, rfl⟩ | exact ⟨fit_i _, trivial, trivial⟩)
    · refine en_X5_told (cD hc) rfl rfl (ch_X5_told_0 ?_)
      refine ⟨fun z => absurd z q0, fun _ => ⟨fun z => absurd z q1, fun _ => ⟨fun _ => ?_, fun z => absurd q2 z⟩⟩⟩
      simp only [cD hc, gD_0 hc, gD_1 hc, gD_2 hc, gD_3 hc, gD_4 hc, gD_5 hc, gD_6 hc, gD_7 hc, gD_8 hc, gD_9 hc, gD_10 hc, gD_11 hc, gD_12 hc, gD_13 hc, gD_14 hc, gD_15 hc, gD_16 hc, gD_17 hc, gD_18 hc, gD_19 hc, pD_1 hc, pD_2 hc, pD_3 hc, pD_5 hc, pD_8 hc, pD_11 hc, pD_12 hc, pD_13 hc, pD_14 hc, pD_15 hc, am_b_some, hI.1.2.1.2.2]; (first | exact ⟨fit_i _, rfl, rfl⟩ | exact ⟨fit_i _, rfl, trivial⟩ | exact ⟨fit_i _, trivial, rfl⟩ | exact ⟨fit_i _, trivial, trivial⟩)
  by_cases q3 : a = nI 3
  · refine both_same ⟨n, m, c, hI⟩ (x := nI (linkN ((S 0).2 7) n / 2)) ?_ (fun h hc => ?_)
    · refine en_X4_told k_0 rfl rfl (ch_X4_told_0 ?_)
      refine ⟨fun z => absurd z q0, fun _ => ⟨fun z => absurd z q1, fun _ => ⟨fun z => absurd z q2, fun _ => ⟨fun _ => ?_, fun z => absurd q3 z⟩⟩⟩⟩
      simp only [f0_0, am_b_some]
      refine ⟨_, _, onN0 (ok_linkCount bN hw.1.1 h8 hw.2.2.2.2.2.1.2.1), ?_⟩
      (first | exact ⟨fit_i _, rfl, rfl⟩ | exact ⟨fit_i _, rfl, trivial⟩ | exact ⟨fit_i _, trivial, rfl⟩ | exact ⟨fit_i _, trivial, trivial⟩)
    · refine en_X5_told (cD hc) rfl rfl (ch_X5_told_0 ?_)
      refine ⟨fun z => absurd z q0, fun _ => ⟨fun z => absurd z q1, fun _ => ⟨fun z => absurd z q2, fun _ => ⟨fun _ => ?_, fun z => absurd q3 z⟩⟩⟩⟩
      refine ⟨_, _, onB0 (ok_links hc hI.1.2.1.1 h8), ?_⟩
      rw [hM.1.2.2.1]
      (first | exact ⟨fit_i _, rfl, rfl⟩ | exact ⟨fit_i _, rfl, trivial⟩ | exact ⟨fit_i _, trivial, rfl⟩ | exact ⟨fit_i _, trivial, trivial⟩)
  by_cases q4 : a = nI 4
  · refine both_same ⟨n, m, c, hI⟩ (x := nI (clN ((S 0).2 7) ((S 0).2 8) n (((1 : Int32) <<< (nI m &&& 31)) - 1))) ?_ (fun h hc => ?_)
    · refine en_X4_told k_0 rfl rfl (ch_X4_told_0 ?_)
      refine ⟨fun z => absurd z q0, fun _ => ⟨fun z => absurd z q1, fun _ => ⟨fun z => absurd z q2, fun _ => ⟨fun z => absurd z q3, fun _ => ⟨fun _ => ?_, fun z => absurd q4 z⟩⟩⟩⟩⟩
      simp only [f0_0, am_b_some]
      refine ⟨_, _, onN0 (ok_clashes bN hw.1.1 h8 hw.1.2.1 hsm), ?_⟩
      (first | exact ⟨fit_i _, rfl, rfl⟩ | exact ⟨fit_i _, rfl, trivial⟩ | exact ⟨fit_i _, trivial, rfl⟩ | exact ⟨fit_i _, trivial, trivial⟩)
    · refine en_X5_told (cD hc) rfl rfl (ch_X5_told_0 ?_)
      refine ⟨fun z => absurd z q0, fun _ => ⟨fun z => absurd z q1, fun _ => ⟨fun z => absurd z q2, fun _ => ⟨fun z => absurd z q3, fun _ => ⟨fun _ => ?_, fun z => absurd q4 z⟩⟩⟩⟩⟩
      refine ⟨_, _, onB0 (ok_clashesD (B := 0) hc (by omega) hI.1.2.1.1 hI.1.2.1.2.1 h8 hd.2.1.2), ?_⟩
      rw [hM.1.2.2.1, hM.1.2.2.2, clash_all hw.2.2.2.2.2.1 h8 (by have := hd.2.1.2; omega)]
      (first | exact ⟨fit_i _, rfl, rfl⟩ | exact ⟨fit_i _, rfl, trivial⟩ | exact ⟨fit_i _, trivial, rfl⟩ | exact ⟨fit_i _, trivial, trivial⟩)
  by_cases q5 : a = nI 5
  · refine both_same ⟨n, m, c, hI⟩ (x := covered ((S 0).2 5) ((S 0).2 8) n) ?_ (fun h hc => ?_)
    · refine en_X4_told k_0 rfl rfl (ch_X4_told_0 ?_)
      refine ⟨fun z => absurd z q0, fun _ => ⟨fun z => absurd z q1, fun _ => ⟨fun z => absurd z q2, fun _ => ⟨fun z => absurd z q3, fun _ => ⟨fun z => absurd z q4, fun _ => ⟨fun _ => ?_, fun z => absurd q5 z⟩⟩⟩⟩⟩⟩
      simp only [f0_0, am_b_some]
      refine ⟨_, _, cCov hd hw, ?_⟩
      (first | exact ⟨fit_i _, rfl, rfl⟩ | exact ⟨fit_i _, rfl, trivial⟩ | exact ⟨fit_i _, trivial, rfl⟩ | exact ⟨fit_i _, trivial, trivial⟩)
    · refine en_X5_told (cD hc) rfl rfl (ch_X5_told_0 ?_)
      refine ⟨fun z => absurd z q0, fun _ => ⟨fun z => absurd z q1, fun _ => ⟨fun z => absurd z q2, fun _ => ⟨fun z => absurd z q3, fun _ => ⟨fun z => absurd z q4, fun _ => ⟨fun _ => ?_, fun z => absurd q5 z⟩⟩⟩⟩⟩⟩
      refine ⟨_, _, onB0 (ok_coveredD (B := 0) hc (by omega) hI.1.2.1.1 h8), ?_⟩
      rw [hM.1.1, hM.1.2.2.2]
      (first | exact ⟨fit_i _, rfl, rfl⟩ | exact ⟨fit_i _, rfl, trivial⟩ | exact ⟨fit_i _, trivial, rfl⟩ | exact ⟨fit_i _, trivial, trivial⟩)
  by_cases q6 : a = nI 6
  · refine both_same ⟨n, m, c, hI⟩ (x := if allC ((S 0).2 5) ((S 0).2 8) n then 1 else 0) ?_ (fun h hc => ?_)
    · refine en_X4_told k_0 rfl rfl (ch_X4_told_0 ?_)
      refine ⟨fun z => absurd z q0, fun _ => ⟨fun z => absurd z q1, fun _ => ⟨fun z => absurd z q2, fun _ => ⟨fun z => absurd z q3, fun _ => ⟨fun z => absurd z q4, fun _ => ⟨fun z => absurd z q5, fun _ => ⟨fun _ => ?_, fun z => absurd q6 z⟩⟩⟩⟩⟩⟩⟩
      simp only [f0_0, am_b_some]
      refine ⟨_, _, onN0 (ok_isDone bN hw.1.1 h8 hsm), ?_⟩
      cases allC ((S 0).2 5) ((S 0).2 8) n
      · rw [if_pos (by rfl)]; (first | exact ⟨fit_i _, rfl, rfl⟩ | exact ⟨fit_i _, rfl, trivial⟩ | exact ⟨fit_i _, trivial, rfl⟩ | exact ⟨fit_i _, trivial, trivial⟩)
      · rw [if_neg (by decide)]; (first | exact ⟨fit_i _, rfl, rfl⟩ | exact ⟨fit_i _, rfl, trivial⟩ | exact ⟨fit_i _, trivial, rfl⟩ | exact ⟨fit_i _, trivial, trivial⟩)
    · refine en_X5_told (cD hc) rfl rfl (ch_X5_told_0 ?_)
      refine ⟨fun z => absurd z q0, fun _ => ⟨fun z => absurd z q1, fun _ => ⟨fun z => absurd z q2, fun _ => ⟨fun z => absurd z q3, fun _ => ⟨fun z => absurd z q4, fun _ => ⟨fun z => absurd z q5, fun _ => ⟨fun _ => ?_, fun z => absurd q6 z⟩⟩⟩⟩⟩⟩⟩
      refine ⟨_, _, onB0 (ok_isDoneD (B := 0) hc (by omega) hI.1.2.1.1 h8), ?_⟩
      rw [hM.1.1, hM.1.2.2.2]
      cases allC ((S 0).2 5) ((S 0).2 8) n
      · rw [if_pos (by rfl)]; (first | exact ⟨fit_i _, rfl, rfl⟩ | exact ⟨fit_i _, rfl, trivial⟩ | exact ⟨fit_i _, trivial, rfl⟩ | exact ⟨fit_i _, trivial, trivial⟩)
      · rw [if_neg (by decide)]; (first | exact ⟨fit_i _, rfl, rfl⟩ | exact ⟨fit_i _, rfl, trivial⟩ | exact ⟨fit_i _, trivial, rfl⟩ | exact ⟨fit_i _, trivial, trivial⟩)
  by_cases q7 : a = nI 7
  · refine both_same ⟨n, m, c, hI⟩ (x := (S 0).1 3) ?_ (fun h hc => ?_)
    · refine en_X4_told k_0 rfl rfl (ch_X4_told_0 ?_)
      refine ⟨fun z => absurd z q0, fun _ => ⟨fun z => absurd z q1, fun _ => ⟨fun z => absurd z q2, fun _ => ⟨fun z => absurd z q3, fun _ => ⟨fun z => absurd z q4, fun _ => ⟨fun z => absurd z q5, fun _ => ⟨fun z => absurd z q6, fun _ => ⟨fun _ => ?_, fun z => absurd q7 z⟩⟩⟩⟩⟩⟩⟩⟩
      simp only [f0_0, gN (show 3 < 5 by omega), am_b_some]; (first | exact ⟨fit_i _, rfl, rfl⟩ | exact ⟨fit_i _, rfl, trivial⟩ | exact ⟨fit_i _, trivial, rfl⟩ | exact ⟨fit_i _, trivial, trivial⟩)
    · refine en_X5_told (cD hc) rfl rfl (ch_X5_told_0 ?_)
      refine ⟨fun z => absurd z q0, fun _ => ⟨fun z => absurd z q1, fun _ => ⟨fun z => absurd z q2, fun _ => ⟨fun z => absurd z q3, fun _ => ⟨fun z => absurd z q4, fun _ => ⟨fun z => absurd z q5, fun _ => ⟨fun z => absurd z q6, fun _ => ⟨fun _ => ?_, fun z => absurd q7 z⟩⟩⟩⟩⟩⟩⟩⟩
      have l0 : am_lI (ob sgD h 98 (S 16)) .int (98 + 1) 0 = some ((S 16).2 0 0) := lD_0 (i := 0) hc (by omega)
      simp only [cD hc, gD_0 hc, gD_1 hc, gD_2 hc, gD_3 hc, gD_4 hc, gD_5 hc, gD_6 hc, gD_7 hc, gD_8 hc, gD_9 hc, gD_10 hc, gD_11 hc, gD_12 hc, gD_13 hc, gD_14 hc, gD_15 hc, gD_16 hc, gD_17 hc, gD_18 hc, gD_19 hc, pD_1 hc, pD_2 hc, pD_3 hc, pD_5 hc, pD_8 hc, pD_11 hc, pD_12 hc, pD_13 hc, pD_14 hc, pD_15 hc, am_b_some, l0]
      rw [show (S 16).2 0 0 = (S 0).1 3 from hM.2]
      (first | exact ⟨fit_i _, rfl, rfl⟩ | exact ⟨fit_i _, rfl, trivial⟩ | exact ⟨fit_i _, trivial, rfl⟩ | exact ⟨fit_i _, trivial, trivial⟩)
  by_cases q8 : a = nI 8
  · refine both_same ⟨n, m, c, hI⟩ (x := z) ?_ (fun h hc => ?_)
    · refine en_X4_told k_0 rfl rfl (ch_X4_told_0 ?_)
      refine ⟨fun z => absurd z q0, fun _ => ⟨fun z => absurd z q1, fun _ => ⟨fun z => absurd z q2, fun _ => ⟨fun z => absurd z q3, fun _ => ⟨fun z => absurd z q4, fun _ => ⟨fun z => absurd z q5, fun _ => ⟨fun z => absurd z q6, fun _ => ⟨fun z => absurd z q7, fun _ => ⟨fun _ => ?_, fun z => absurd q8 z⟩⟩⟩⟩⟩⟩⟩⟩⟩
      refine ⟨_, _, hz1, ?_⟩
      (first | exact ⟨fit_i _, rfl, rfl⟩ | exact ⟨fit_i _, rfl, trivial⟩ | exact ⟨fit_i _, trivial, rfl⟩ | exact ⟨fit_i _, trivial, trivial⟩)
    · refine en_X5_told (cD hc) rfl rfl (ch_X5_told_0 ?_)
      refine ⟨fun z => absurd z q0, fun _ => ⟨fun z => absurd z q1, fun _ => ⟨fun z => absurd z q2, fun _ => ⟨fun z => absurd z q3, fun _ => ⟨fun z => absurd z q4, fun _ => ⟨fun z => absurd z q5, fun _ => ⟨fun z => absurd z q6, fun _ => ⟨fun z => absurd z q7, fun _ => ⟨fun _ => ?_, fun z => absurd q8 z⟩⟩⟩⟩⟩⟩⟩⟩⟩
      refine ⟨_, _, hz2 h hc, ?_⟩
      (first | exact ⟨fit_i _, rfl, rfl⟩ | exact ⟨fit_i _, rfl, trivial⟩ | exact ⟨fit_i _, trivial, rfl⟩ | exact ⟨fit_i _, trivial, trivial⟩)
  by_cases q9 : a = nI 9
  · refine both_same ⟨n, m, c, hI⟩ (x := nI u) ?_ (fun h hc => ?_)
    · refine en_X4_told k_0 rfl rfl (ch_X4_told_0 ?_)
      refine ⟨fun z => absurd z q0, fun _ => ⟨fun z => absurd z q1, fun _ => ⟨fun z => absurd z q2, fun _ => ⟨fun z => absurd z q3, fun _ => ⟨fun z => absurd z q4, fun _ => ⟨fun z => absurd z q5, fun _ => ⟨fun z => absurd z q6, fun _ => ⟨fun z => absurd z q7, fun _ => ⟨fun z => absurd z q8, fun _ => ⟨fun _ => ?_, fun z => absurd q9 z⟩⟩⟩⟩⟩⟩⟩⟩⟩⟩
      simp only [f0_3, am_b_some]
      refine ⟨_, _, ok_size, ?_⟩
      rw [e2]
      (first | exact ⟨fit_i _, rfl, rfl⟩ | exact ⟨fit_i _, rfl, trivial⟩ | exact ⟨fit_i _, trivial, rfl⟩ | exact ⟨fit_i _, trivial, trivial⟩)
    · refine en_X5_told (cD hc) rfl rfl (ch_X5_told_0 ?_)
      refine ⟨fun z => absurd z q0, fun _ => ⟨fun z => absurd z q1, fun _ => ⟨fun z => absurd z q2, fun _ => ⟨fun z => absurd z q3, fun _ => ⟨fun z => absurd z q4, fun _ => ⟨fun z => absurd z q5, fun _ => ⟨fun z => absurd z q6, fun _ => ⟨fun z => absurd z q7, fun _ => ⟨fun z => absurd z q8, fun _ => ⟨fun _ => ?_, fun z => absurd q9 z⟩⟩⟩⟩⟩⟩⟩⟩⟩⟩
      simp only [cD hc, gD_0 hc, gD_1 hc, gD_2 hc, gD_3 hc, gD_4 hc, gD_5 hc, gD_6 hc, gD_7 hc, gD_8 hc, gD_9 hc, gD_10 hc, gD_11 hc, gD_12 hc, gD_13 hc, gD_14 hc, gD_15 hc, gD_16 hc, gD_17 hc, gD_18 hc, gD_19 hc, pD_1 hc, pD_2 hc, pD_3 hc, pD_5 hc, pD_8 hc, pD_11 hc, pD_12 hc, pD_13 hc, pD_14 hc, pD_15 hc, am_b_some, e3]; (first | exact ⟨fit_i _, rfl, rfl⟩ | exact ⟨fit_i _, rfl, trivial⟩ | exact ⟨fit_i _, trivial, rfl⟩ | exact ⟨fit_i _, trivial, trivial⟩)
  by_cases q10 : a = nI 10
  · refine both_same ⟨n, m, c, hI⟩ (x := nI ln) ?_ (fun h hc => ?_)
    · refine en_X4_told k_0 rfl rfl (ch_X4_told_0 ?_)
      refine ⟨fun z => absurd z q0, fun _ => ⟨fun z => absurd z q1, fun _ => ⟨fun z => absurd z q2, fun _ => ⟨fun z => absurd z q3, fun _ => ⟨fun z => absurd z q4, fun _ => ⟨fun z => absurd z q5, fun _ => ⟨fun z => absurd z q6, fun _ => ⟨fun z => absurd z q7, fun _ => ⟨fun z => absurd z q8, fun _ => ⟨fun z => absurd z q9, fun _ => ⟨fun _ => ?_, fun z => absurd q10 z⟩⟩⟩⟩⟩⟩⟩⟩⟩⟩⟩
      simp only [f0_2, am_b_some]
      refine ⟨_, _, onX0 (ok_lengthX bX), ?_⟩
      rw [x1]
      (first | exact ⟨fit_i _, rfl, rfl⟩ | exact ⟨fit_i _, rfl, trivial⟩ | exact ⟨fit_i _, trivial, rfl⟩ | exact ⟨fit_i _, trivial, trivial⟩)
    · refine en_X5_told (cD hc) rfl rfl (ch_X5_told_0 ?_)
      refine ⟨fun z => absurd z q0, fun _ => ⟨fun z => absurd z q1, fun _ => ⟨fun z => absurd z q2, fun _ => ⟨fun z => absurd z q3, fun _ => ⟨fun z => absurd z q4, fun _ => ⟨fun z => absurd z q5, fun _ => ⟨fun z => absurd z q6, fun _ => ⟨fun z => absurd z q7, fun _ => ⟨fun z => absurd z q8, fun _ => ⟨fun z => absurd z q9, fun _ => ⟨fun _ => ?_, fun z => absurd q10 z⟩⟩⟩⟩⟩⟩⟩⟩⟩⟩⟩
      simp only [cD hc, gD_0 hc, gD_1 hc, gD_2 hc, gD_3 hc, gD_4 hc, gD_5 hc, gD_6 hc, gD_7 hc, gD_8 hc, gD_9 hc, gD_10 hc, gD_11 hc, gD_12 hc, gD_13 hc, gD_14 hc, gD_15 hc, gD_16 hc, gD_17 hc, gD_18 hc, gD_19 hc, pD_1 hc, pD_2 hc, pD_3 hc, pD_5 hc, pD_8 hc, pD_11 hc, pD_12 hc, pD_13 hc, pD_14 hc, pD_15 hc, am_b_some, x2]; (first | exact ⟨fit_i _, rfl, rfl⟩ | exact ⟨fit_i _, rfl, trivial⟩ | exact ⟨fit_i _, trivial, rfl⟩ | exact ⟨fit_i _, trivial, trivial⟩)
  refine both_same ⟨n, m, c, hI⟩ (x := -3) ?_ (fun h hc => ?_)
  · refine en_X4_told k_0 rfl rfl (ch_X4_told_0 ?_)
    refine ⟨fun z => absurd z q0, fun _ => ⟨fun z => absurd z q1, fun _ => ⟨fun z => absurd z q2, fun _ => ⟨fun z => absurd z q3, fun _ => ⟨fun z => absurd z q4, fun _ => ⟨fun z => absurd z q5, fun _ => ⟨fun z => absurd z q6, fun _ => ⟨fun z => absurd z q7, fun _ => ⟨fun z => absurd z q8, fun _ => ⟨fun z => absurd z q9, fun _ => ⟨fun z => absurd z q10, fun _ => ?_⟩⟩⟩⟩⟩⟩⟩⟩⟩⟩⟩
    (first | exact ⟨fit_i _, rfl, rfl⟩ | exact ⟨fit_i _, rfl, trivial⟩ | exact ⟨fit_i _, trivial, rfl⟩ | exact ⟨fit_i _, trivial, trivial⟩)
  · refine en_X5_told (cD hc) rfl rfl (ch_X5_told_0 ?_)
    refine ⟨fun z => absurd z q0, fun _ => ⟨fun z => absurd z q1, fun _ => ⟨fun z => absurd z q2, fun _ => ⟨fun z => absurd z q3, fun _ => ⟨fun z => absurd z q4, fun _ => ⟨fun z => absurd z q5, fun _ => ⟨fun z => absurd z q6, fun _ => ⟨fun z => absurd z q7, fun _ => ⟨fun z => absurd z q8, fun _ => ⟨fun z => absurd z q9, fun _ => ⟨fun z => absurd z q10, fun _ => ?_⟩⟩⟩⟩⟩⟩⟩⟩⟩⟩⟩
    (first | exact ⟨fit_i _, rfl, rfl⟩ | exact ⟨fit_i _, rfl, trivial⟩ | exact ⟨fit_i _, trivial, rfl⟩ | exact ⟨fit_i _, trivial, trivial⟩)
end DH
