/-! FAULT AND MESH: both -/
section FA
variable {L : Nat} {xs : Nat → Int32} {P : st_P} {S : Nat → sg_S} {h : am_H} {n m c : Nat}
theorem TT_id (M : sg_S) : TT S M (S 12) = va_up S 1 M := by
  unfold TT
  rw [show S 12 = va_up S 1 M 12 from (vu_ne _ _ (by omega)).symm, vu_id]
theorem rdBoth {ln : Nat} {f : Nat → Int32} {M0 X : sg_S} (h2 : ln ≤ 200) (hX1 : X.1 1 = nI ln) (hX2 : X.2 0 = f) (hg : gdM M0 n) : ∃ (ok : Bool) (x : Int32) (M' X' : sg_S) (n' K : Nat), am_ok L xs m_X3_readInto [.ref 15, .ref 8] (HP P (TT S M0 X)) (some x) (HP P (TT S M' X')) ∧ tX X' ln f (nI K) ∧ gdM M' n' ∧ (ok = true → x = -1) ∧ (ok = false → ¬ x = -1) ∧ ∀ (h : am_H) (D : sg_S) (a : Int32), 98 + 10 < h.1 → tD D ln f → D.1 1 = M0.1 0 → (a = 0 ∨ (a = 1 ∧ rM M0 D)) → ∃ D', am_ok L xs m_X5_reads [.ref 98, .int a] (ob sgD h 98 D) (some (if ok then 1 else 0)) (ob sgD h 98 D') ∧ (ok = false → D'.1 11 = x) ∧ (ok = true → D'.1 14 = nI K) ∧ (D'.1 5 = D.1 5 ∧ D'.1 8 = D.1 8) ∧ (∀ k, ¬ k = 0 → ¬ k = 4 → ¬ k = 16 → D'.2 k = D.2 k) ∧ (a = 0 → qR D D') ∧ (a = 1 → ok = true → rM M' D') := by
  obtain ⟨ok, x, M', X', n', K, p1, p2, p3, p4, p5, p6⟩ := txt (L := L) (xs := xs) (P := P) (S := S) (f := f) h2 23 0 0 n M0 (upd (upd X.1 3 0) 5 0, X.2) rfl ⟨hX1, hX2, rfl⟩ rfl (by omega) hg
  refine ⟨ok, x, M', X', n', K, ?_, p2, p3, p4, p5, fun h D a hc hD hd1 hdo => ?_⟩
  · refine en_X3_readInto kX HP_12 HP_22 (ch_X3_readInto_0 ?_)
    rw [pX3, am_b_some, pX5, am_b_some]
    exact p1 _
  · have ha : a = 0 ∨ a = 1 := hdo.elim Or.inl (fun z => Or.inr z.1)
    generalize hB0 : ((upd (upd (upd (upd D.1 15 a) 12 0) 14 1) 13 (D.1 1), D.2) : sg_S) = B0
    have hB : nD B0 (tkS f ln 0) (nxE f ln 0) (B0.2 16) = nxD B0 f ln 0 := by
      unfold nD nxD
      rw [vu_id]
      rfl
    have b8 : B0.1 8 = nI ln := by rw [← hB0]; exact hD.1
    have bv : B0.2 = D.2 := by rw [← hB0]
    have nx := ok_nextD (L := L) (xs := xs) (h := h) (c := 98) (D := B0) (f := f) (ln := ln) (e := 0) hc b8 h2 (by rw [bv]; exact hD.2.1) (by rw [← hB0]; rfl) (by omega)
    have bk : ∀ k, ¬ k = 11 → ¬ k = 12 → (nxD B0 f ln 0).1 k = B0.1 k := fun k q1 q2 => by
      show upd (upd B0.1 11 _) 12 _ k = _
      rw [upd_ne _ _ q2, upd_ne _ _ q1]
    have b0k : ∀ k, ¬ k = 12 → ¬ k = 13 → ¬ k = 14 → ¬ k = 15 → B0.1 k = D.1 k := fun k q1 q2 q3 q4 => by
      rw [← hB0]
      show upd (upd (upd (upd D.1 15 _) 12 _) 14 _) 13 _ k = _
      rw [upd_ne _ _ q2, upd_ne _ _ q3, upd_ne _ _ q1, upd_ne _ _ q4]
    have b15 : (nxD B0 f ln 0).1 15 = a := by rw [bk 15 (by omega) (by omega), ← hB0]; rfl
    have bdo : (nxD B0 f ln 0).1 15 = 0 ∨ ((nxD B0 f ln 0).1 15 = 1 ∧ rM M0 (nxD B0 f ln 0)) := by
      rw [b15]
      rcases hdo with z | ⟨z, ⟨m1, m2, m3⟩, m4⟩
      · exact Or.inl z
      · refine Or.inr ⟨z, ⟨?_, ?_, ?_⟩, ?_⟩
        · rw [bk 1 (by omega) (by omega), b0k 1 (by omega) (by omega) (by omega) (by omega)]; exact m1
        · rw [bk 2 (by omega) (by omega), b0k 2 (by omega) (by omega) (by omega) (by omega)]; exact m2
        · rw [bk 3 (by omega) (by omega), b0k 3 (by omega) (by omega) (by omega) (by omega)]; exact m3
        · show B0.2 0 0 = _ ∧ B0.2 4 = _ ∧ seg (B0.2 0) 1 = _ ∧ seg (B0.2 0) 17 = _
          rw [bv]; exact m4
    obtain ⟨b, D1, D', r0, r1, r2, r3, r4, r5, r6, r7⟩ := p6 h (nxD B0 f ln 0) hc ⟨(bk 8 (by omega) (by omega)).trans b8, by show ∀ i, i < ln → B0.2 7 i = _; rw [bv]; exact hD.2.1, by show ∀ i, i < 20 → B0.2 17 i = _; rw [bv]; exact hD.2.2⟩ rfl rfl (by rw [bk 13 (by omega) (by omega), ← hB0]; exact hd1) bdo
    have d14 : D1.1 14 = nI 1 := by rw [r1, bk 14 (by omega) (by omega), ← hB0]; rfl
    refine ⟨D', ?_, r3, r4, ⟨?_, ?_⟩, fun k q1 q2 q3 => ?_, fun z => ?_, fun z => r7 (b15.trans z)⟩
    · refine en_X5_reads (cD hc) rfl rfl (ch_X5_reads_0 ⟨ha, ?_⟩)
      simp only [cD hc, gD_0 hc, gD_1 hc, gD_2 hc, gD_3 hc, gD_4 hc, gD_5 hc, gD_6 hc, gD_7 hc, gD_8 hc, gD_9 hc, gD_10 hc, gD_11 hc, gD_12 hc, gD_13 hc, gD_14 hc, gD_15 hc, gD_16 hc, gD_17 hc, gD_18 hc, gD_19 hc, pD_1 hc, pD_2 hc, pD_3 hc, pD_5 hc, pD_8 hc, pD_11 hc, pD_12 hc, pD_13 hc, pD_14 hc, pD_15 hc, am_b_some, upd_ne _ _ (show ¬ 1 = 14 by decide), upd_ne _ _ (show ¬ 1 = 12 by decide), upd_ne _ _ (show ¬ 1 = 15 by decide)]
      rw [hB0]
      refine ⟨_, nx, _, _, r0, ?_⟩
      have := r2 (ob sgD h 98 D)
      rw [show nI (0 + 1) = D1.1 14 from d14.symm, upd_id] at this
      exact this
    · rw [r5.1.1, bk 5 (by omega) (by omega), b0k 5 (by omega) (by omega) (by omega) (by omega)]
    · rw [r5.1.2.1, bk 8 (by omega) (by omega), b0k 8 (by omega) (by omega) (by omega) (by omega)]
    · rw [r5.2 k q1 q2 q3]
      show B0.2 k = _
      rw [bv]
    · obtain ⟨⟨m1, m2, m3⟩, m4, m5⟩ := r6 (b15.trans z)
      refine ⟨⟨?_, ?_, ?_⟩, ?_, ?_⟩
      · rw [m1, bk 1 (by omega) (by omega), b0k 1 (by omega) (by omega) (by omega) (by omega)]
      · rw [m2, bk 2 (by omega) (by omega), b0k 2 (by omega) (by omega) (by omega) (by omega)]
      · rw [m3, bk 3 (by omega) (by omega), b0k 3 (by omega) (by omega) (by omega) (by omega)]
      · rw [m4]; show B0.2 0 = _; rw [bv]
      · rw [m5]; show B0.2 4 = _; rw [bv]
theorem gd_of {M : sg_S} (hd : dims n m c) (h : wfS M n m c) : gdM M n := ⟨m, c, hd, h.1, h.2.1, h.2.2.1, wf_tz h, h.2.2.2.2.1.2, h.2.2.2.2.2.1⟩
/-- what one reading gives: class, and the reference's with and without doing -/
theorem rd0 (hI : INVn n m c P S) : ∃ (ok : Bool) (x : Int32) (M' X' : sg_S) (n' K ln : Nat), ln ≤ 200 ∧ am_ok L xs m_X3_readInto [.ref 15, .ref 8] (HP P (va_up S 1 (cpyM (S 1) (S 0)))) (some x) (HP P (TT S M' X')) ∧ tX X' ln ((S 12).2 0) (nI K) ∧ gdM M' n' ∧ (ok = true → x = -1) ∧ (ok = false → ¬ x = -1) ∧ tD (S 16) ln ((S 12).2 0) ∧ rM (cpyM (S 1) (S 0)) (S 16) ∧ ∀ (h : am_H) (D : sg_S) (a : Int32), 98 + 10 < h.1 → tD D ln ((S 12).2 0) → D.1 1 = (S 16).1 1 → (a = 0 ∨ (a = 1 ∧ rM (cpyM (S 1) (S 0)) D)) → ∃ D', am_ok L xs m_X5_reads [.ref 98, .int a] (ob sgD h 98 D) (some (if ok then 1 else 0)) (ob sgD h 98 D') ∧ (ok = false → D'.1 11 = x) ∧ (ok = true → D'.1 14 = nI K) ∧ (D'.1 5 = D.1 5 ∧ D'.1 8 = D.1 8) ∧ (∀ k, ¬ k = 0 → ¬ k = 4 → ¬ k = 16 → D'.2 k = D.2 k) ∧ (a = 0 → qR D D') ∧ (a = 1 → ok = true → rM M' D') := by
  have hd := hI.1.1
  have hw := hI.1.2.2.1
  have hZ := hI.2.2.2.2.2
  have hw1 : wfS (cpyM (S 1) (S 0)) n m c := cpy_wf (hZ 1 (by omega)) (hZ 0 (by omega)) hw
  have hb1 : bOf (cpyM (S 1) (S 0)) (S 16) (fun j => (S 16).2 0 (0 + j)) := cpy_bOf (hZ 1 (by omega)) (hZ 0 (by omega)) hI.1.2.2.2
  obtain ⟨⟨ln, x0, x1, x2, x3⟩, x4⟩ := hI.2.2.2.2.1
  obtain ⟨ok, x, M', X', n', K, p1, p2, p3, p4, p5, p6⟩ := rdBoth (L := L) (xs := xs) (P := P) (S := S) (M0 := cpyM (S 1) (S 0)) (X := S 12) x0 x1 rfl (gd_of hd hw1)
  rw [TT_id] at p1
  have eS : ∀ a, seg (fun j => (S 16).2 0 (0 + j)) a = seg ((S 16).2 0) a := fun a => by
    funext v
    unfold seg
    simp only [Nat.zero_add]
  refine ⟨ok, x, M', X', n', K, ln, x0, p1, p2, p3, p4, p5, ⟨x2, fun i hi => (x3 i hi).symm, x4⟩, ?_, fun h D a hc hD hd1 hdo => p6 h D a hc hD (hd1.trans (hI.1.2.1.1.trans hw1.1.1.symm)) hdo⟩
  refine ⟨⟨hI.1.2.1.1.trans hw1.1.1.symm, hI.1.2.1.2.1.trans hw1.1.2.1.symm, hI.1.2.1.2.2.trans hw1.1.2.2.symm⟩, hb1.1.2, hb1.1.1.1, ?_, ?_⟩
  · rw [← eS]; exact hb1.1.1.2.1
  · rw [← eS]; exact hb1.1.1.2.2.1
theorem both_fault (hI : INVn n m c P S) : both L xs P S m_X4_fault m_X5_fault [] := by
  obtain ⟨ok, x, M', X', n', K, ln, h2, p1, p2, p3, p4, p5, p6, p7, p8⟩ := rd0 (L := L) (xs := xs) hI
  have hw := hI.1.2.2.1
  obtain ⟨D', r0, r1, r2, r3, r4, r5, r6⟩ := p8 (HP P (TT S M' X')) (S 16) 0 bD p6 rfl (Or.inl rfl)
  obtain ⟨⟨q1, q2, q3⟩, q4, q5⟩ := r5 rfl
  have tz : tz4 M' := by obtain ⟨_, _, _, _, _, _, z, _⟩ := p3; exact z
  have I2 := INV_text hI (M := M') (X := X') (D := D') tz ⟨q1, q2, q3, r3.1⟩ (fun k hk => by
    rcases hk with rfl | rfl | rfl | rfl | rfl
    · exact q4
    · exact q5
    · exact r4 6 (by omega) (by omega) (by omega)
    · exact r4 9 (by omega) (by omega) (by omega)
    · exact r4 10 (by omega) (by omega) (by omega)) ⟨⟨ln, h2, p2.1, r3.2.trans p6.1, fun i hi => by rw [p2.2.1, r4 7 (by omega) (by omega) (by omega), p6.2.1 i hi]⟩, fun i hi => by rw [r4 17 (by omega) (by omega) (by omega)]; exact p6.2.2 i hi⟩
  refine both_at (x := x) (P' := P) (S1 := TT S M' X') (D' := D') ⟨n, m, c, I2⟩ (by unfold TT; rw [vu_ne _ _ (by omega), vu_ne _ _ (by omega)]) ?_ ?_
  · refine en_X4_fault k_0 HP_12 HP_22 (ch_X4_fault_0 ?_)
    simp only [f0_0, f0_1, am_b_some]
    refine ⟨_, cpy (jb := 1) (jc := 0) 8 1 (fun S N => foT) (fun S N => foN) (by omega) (by omega) (by omega) hw.2.2.1, ?_⟩
    simp only [f0_2, f0_1, am_b_some]
    exact ⟨_, _, p1, fit_i _, rfl, rfl⟩
  · refine en_X5_fault (cD bD) rfl rfl (ch_X5_fault_0 ⟨_, _, r0, ?_⟩)
    cases ok
    · rw [if_pos (by rfl), gD_11 bD, am_b_some, r1 rfl]
      exact ⟨fit_i _, rfl, rfl⟩
    · rw [if_neg (by decide), p4 rfl]
      exact ⟨fit_i _, rfl, rfl⟩
end FA
