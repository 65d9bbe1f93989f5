/-! A CLAUSE OF THE REFERENCE; THE WHOLE TEXT, BOTH -/
theorem wdN_le (f : Nat → Int32) (s t : Nat) : wdN f s t ≤ 4 := by
  unfold wdN
  repeat' split
  all_goals omega
section RD
variable {L : Nat} {xs : Nat → Int32} {h : am_H} {P : st_P} {S : Nat → sg_S} {M X D : sg_S} {ln e n : Nat} {f g : Nat → Int32} {cl : Int32}
/-- what a reading leaves alone -/
def fR (D D' : sg_S) : Prop := (D'.1 5 = D.1 5 ∧ D'.1 8 = D.1 8 ∧ D'.1 14 = D.1 14 ∧ D'.1 15 = D.1 15) ∧ ∀ k, ¬ k = 0 → ¬ k = 4 → ¬ k = 16 → D'.2 k = D.2 k
def qR (D D' : sg_S) : Prop := (D'.1 1 = D.1 1 ∧ D'.1 2 = D.1 2 ∧ D'.1 3 = D.1 3) ∧ D'.2 0 = D.2 0 ∧ D'.2 4 = D.2 4
theorem ok_readsClause {s : Nat} (hc : 98 + 10 < h.1) (hD : tD D ln f) (h2 : ln ≤ 200) (hs : D.1 11 = nI s) (ht : D.1 12 = nI (tkE f ln s)) (hsl : s ≤ ln) (hn : D.1 13 = nI n) (hM0 : M.1 0 = nI n) (hg : gdM M n) (hdo : D.1 15 = 0 ∨ (D.1 15 = 1 ∧ rM M D)) : ∃ D', am_ok L xs m_X5_readsClause [.ref 98] (ob sgD h 98 D) (some (if clB f ln n s (tkE f ln s) then 1 else 0)) (ob sgD h 98 D') ∧ (clB f ln n s (tkE f ln s) = false → D'.1 11 = nI (clP f ln n s (tkE f ln s))) ∧ (clB f ln n s (tkE f ln s) = true → D'.1 11 = nI (tkS f ln (clE f ln n s (tkE f ln s))) ∧ D'.1 12 = nI (nxE f ln (clE f ln n s (tkE f ln s))) ∧ D'.1 13 = (clM f ln n s (tkE f ln s) M).1 0) ∧ fR D D' ∧ (D.1 15 = 0 → qR D D') ∧ (D.1 15 = 1 → clB f ln n s (tkE f ln s) = true → rM (clM f ln n s (tkE f ln s) M) D') := by
  have hte := tkE_le f hsl
  generalize htt : tkE f ln s = t at ht hte
  have hwH := wHF_eq f (ln := ln) (s := s)
  rw [htt] at hwH
  have a0 := ok_wordHere (L := L) (xs := xs) (h := h) (c := 98) (D := D) (f := f) (ln := ln) (s := s) (t := t) hc h2 hD.2.1 hs ht hte.1 hte.2.1 hD.2.2
  rw [hwH] at a0
  have hw4 := wdN_le f s t
  by_cases hw : wdN f s t < 4
  · rw [if_pos hw] at a0
    have ep : clP f ln n s t = tkS f ln (rsR f ln n (wdN f s t) t).2 := by unfold clP; rw [if_pos hw]
    have eb : clB f ln n s t = (rsR f ln n (wdN f s t) t).1 := by unfold clB; rw [decide_eq_true hw, Bool.true_and]
    have ee : clE f ln n s t = (rsR f ln n (wdN f s t) t).2 := rfl
    have nm : ¬ nI (wdN f s t) = -1 := nI_ne_m1 (by omega)
    have a1 := ok_nxD (L := L) (xs := xs) (h := h) (D := D) (f := f) (g := D.2 16) (s := s) (t := t) hc hD h2 hte.2.1
    rw [nD_self hs ht] at a1
    obtain ⟨g', r0, r1⟩ := ok_rest (L := L) (xs := xs) (h := h) (D := D) (f := f) (g := D.2 16) (e := t) (n := n) hc hD h2 hte.2.1 hw hn
    cases hr : (rsR f ln n (wdN f s t) t).1
    · rw [hr] at r0 eb
      refine ⟨nD D (tkS f ln (rsR f ln n (wdN f s t) t).2) (nxE f ln (rsR f ln n (wdN f s t) t).2) g', en_X5_readsClause (cD hc) rfl rfl (ch_X5_readsClause_0 ⟨_, _, a0, ?_⟩), ?_, ?_, ?_, ?_, ?_⟩
      · rw [if_neg nm, eb]
        refine ⟨_, a1, _, _, r0, ?_⟩
        rw [if_pos (by rfl)]
        exact ⟨fit_0, rfl, rfl⟩
      · intro _
        rw [ep]
        rfl
      · intro z; rw [eb] at z; exact absurd z (by decide)
      · exact ⟨⟨rfl, rfl, rfl, rfl⟩, fun k _ _ q => vu_ne _ _ q⟩
      · intro _; exact ⟨⟨rfl, rfl, rfl⟩, rfl, rfl⟩
      · intro _ z; rw [eb] at z; exact absurd z (by decide)
    · rw [hr] at r0 eb
      have r1 := r1 hr
      -- how many stations are read now
      have em : clM f ln n s t M = rsM f ln (wdN f s t) t M := by unfold clM; rw [eb]; rfl
      generalize hB : nD D (tkS f ln (rsR f ln n (wdN f s t) t).2) (nxE f ln (rsR f ln n (wdN f s t) t).2) g' = B at r0
      have b11 : B.1 11 = nI (tkS f ln (rsR f ln n (wdN f s t) t).2) := by rw [← hB]; rfl
      have b12 : B.1 12 = nI (nxE f ln (rsR f ln n (wdN f s t) t).2) := by rw [← hB]; rfl
      have b16 : B.2 16 = rsG f ln (wdN f s t) t (D.2 16) := by rw [← hB, ← r1]; rfl
      have bk : ∀ k, ¬ k = 11 → ¬ k = 12 → B.1 k = D.1 k := fun k q1 q2 => by
        rw [← hB]
        show upd (upd D.1 11 _) 12 _ k = _
        rw [upd_ne _ _ q2, upd_ne _ _ q1]
      have bv : ∀ k, ¬ k = 16 → B.2 k = D.2 k := fun k q => by rw [← hB]; exact vu_ne _ _ q
      have xw : ∃ x, x = (rsM f ln (wdN f s t) t M).1 0 ∧ x = (if wdN f s t = 0 then B.2 16 0 else nI n) := by
        refine ⟨_, rfl, ?_⟩
        by_cases q : wdN f s t = 0
        · rw [if_pos q, b16, q]
          rfl
        · rw [if_neg q, ← hM0]
          unfold rsM
          rw [if_neg q]
          split
          · rfl
          · split
            · rfl
            · rfl
      obtain ⟨x, x1, x2⟩ := xw
      -- behind it
      have fin : ∃ D', (if D.1 15 = 0 then am_fit .boolean 1 ∧ some (1 : Int32) = some 1 ∧ ob sgD h 98 (upd B.1 13 x, B.2) = ob sgD h 98 D' else ∃ h10, am_ok L xs m_X5_does [.ref 98, .int (nI (wdN f s t))] (ob sgD h 98 (upd B.1 13 x, B.2)) none h10 ∧ am_fit .boolean 1 ∧ some (1 : Int32) = some 1 ∧ h10 = ob sgD h 98 D') ∧ (D'.1 11 = nI (tkS f ln (clE f ln n s t)) ∧ D'.1 12 = nI (nxE f ln (clE f ln n s t)) ∧ D'.1 13 = (clM f ln n s t M).1 0) ∧ fR D D' ∧ (D.1 15 = 0 → qR D D') ∧ (D.1 15 = 1 → rM (clM f ln n s t M) D') ∧ (D'.1, D'.2) = D' := by
        rcases hdo with z | ⟨z, hrM⟩
        · refine ⟨(upd B.1 13 x, B.2), ?_, ⟨b11, b12, ?_⟩, ?_, ?_, ?_, rfl⟩
          · rw [if_pos z]; exact ⟨fit_1, rfl, rfl⟩
          · rw [em, ← x1]; rfl
          · refine ⟨⟨?_, ?_, ?_, ?_⟩, fun k _ _ q => bv k q⟩
            · exact bk 5 (by omega) (by omega)
            · exact bk 8 (by omega) (by omega)
            · exact bk 14 (by omega) (by omega)
            · exact bk 15 (by omega) (by omega)
          · intro _
            exact ⟨⟨bk 1 (by omega) (by omega), bk 2 (by omega) (by omega), bk 3 (by omega) (by omega)⟩, bv 0 (by omega), bv 4 (by omega)⟩
          · intro y; rw [z] at y; exact absurd y (by decide)
        · have hrB : rM M (upd B.1 13 x, B.2) := by
            obtain ⟨⟨m1, m2, m3⟩, m4, m5, m6, m7⟩ := hrM
            refine ⟨⟨(bk 1 (by omega) (by omega)).trans m1, (bk 2 (by omega) (by omega)).trans m2, (bk 3 (by omega) (by omega)).trans m3⟩, ?_, (bv 4 (by omega)).trans m5, ?_, ?_⟩
            · show B.2 0 0 = _
              rw [bv 0 (by omega)]; exact m4
            · show seg (B.2 0) 1 = _
              rw [bv 0 (by omega)]; exact m6
            · show seg (B.2 0) 17 = _
              rw [bv 0 (by omega)]; exact m7
          obtain ⟨D', d0, d1, d2, d3⟩ := ok_does (L := L) (xs := xs) (h := h) (D := (upd B.1 13 x, B.2)) (g := D.2 16) (t := t) hc hw hg hr b16 hrB
          refine ⟨D', ?_, ⟨?_, ?_, ?_⟩, ?_, ?_, ?_, rfl⟩
          · rw [if_neg (by rw [z]; decide)]
            exact ⟨_, d0, fit_1, rfl, rfl⟩
          · rw [d2 11 (by omega) (by omega) (by omega)]; exact b11
          · rw [d2 12 (by omega) (by omega) (by omega)]; exact b12
          · rw [d2 13 (by omega) (by omega) (by omega), em, ← x1]; rfl
          · refine ⟨⟨?_, ?_, ?_, ?_⟩, fun k q1 q2 q3 => ?_⟩
            · rw [d2 5 (by omega) (by omega) (by omega)]; exact bk 5 (by omega) (by omega)
            · rw [d2 8 (by omega) (by omega) (by omega)]; exact bk 8 (by omega) (by omega)
            · rw [d2 14 (by omega) (by omega) (by omega)]; exact bk 14 (by omega) (by omega)
            · rw [d2 15 (by omega) (by omega) (by omega)]; exact bk 15 (by omega) (by omega)
            · rw [d3 k q1 q2]; exact bv k q3
          · intro y; rw [z] at y; exact absurd y (by decide)
          · intro _; rw [em]; exact d1
      obtain ⟨D', f1, f2, f3, f4, f5, _⟩ := fin
      have e1 : D'.1 = D'.1 := rfl
      refine ⟨D', ?_, ?_, fun _ => f2, f3, f4, fun y _ => f5 y⟩
      · refine en_X5_readsClause (cD hc) rfl rfl (ch_X5_readsClause_0 ⟨_, _, a0, ?_⟩)
        rw [if_neg nm, eb]
        refine ⟨_, a1, _, _, r0, ?_⟩
        rw [if_neg (by decide)]
        have l0 : am_lI (ob sgD h 98 B) .int (98 + 7) 0 = some (B.2 16 0) := lD_16 (i := 0) hc (by omega)
        have g15 : (upd B.1 13 x) 15 = D.1 15 := bk 15 (by omega) (by omega)
        by_cases q : wdN f s t = 0
        · rw [if_pos q] at x2
          rw [if_pos (show nI (wdN f s t) = 0 by rw [q]; rfl)]
          simp only [cD hc, gD_0 hc, gD_1 hc, gD_2 hc, gD_3 hc, gD_4 hc, gD_5 hc, gD_6 hc, gD_7 hc, gD_8 hc, gD_9 hc, gD_10 hc, gD_11 hc, gD_12 hc, gD_13 hc, gD_14 hc, gD_15 hc, gD_16 hc, gD_17 hc, gD_18 hc, gD_19 hc, pD_1 hc, pD_2 hc, pD_3 hc, pD_5 hc, pD_8 hc, pD_11 hc, pD_12 hc, pD_13 hc, pD_14 hc, pD_15 hc, am_b_some, l0, ← x2, g15]
          exact f1
        · rw [if_neg q] at x2
          rw [if_neg (show ¬ nI (wdN f s t) = 0 from nI_ne0 (by omega) (by omega))]
          have b13 : B.1 13 = x := by rw [bk 13 (by omega) (by omega), hn, ← x2]
          simp only [cD hc, gD_0 hc, gD_1 hc, gD_2 hc, gD_3 hc, gD_4 hc, gD_5 hc, gD_6 hc, gD_7 hc, gD_8 hc, gD_9 hc, gD_10 hc, gD_11 hc, gD_12 hc, gD_13 hc, gD_14 hc, gD_15 hc, gD_16 hc, gD_17 hc, gD_18 hc, gD_19 hc, pD_1 hc, pD_2 hc, pD_3 hc, pD_5 hc, pD_8 hc, pD_11 hc, pD_12 hc, pD_13 hc, pD_14 hc, pD_15 hc, am_b_some, b13, g15]
          exact f1
      · intro z; rw [eb] at z; exact absurd z (by decide)
  · have e4 : wdN f s t = 4 := by omega
    rw [if_neg hw] at a0
    have eb : clB f ln n s t = false := by unfold clB; rw [e4]; rfl
    have ep : clP f ln n s t = s := by unfold clP; rw [if_neg hw]
    refine ⟨D, en_X5_readsClause (cD hc) rfl rfl (ch_X5_readsClause_0 ⟨_, _, a0, ?_⟩), ?_, ?_, ?_, ?_, ?_⟩
    · rw [if_pos rfl, eb]
      exact ⟨fit_0, rfl, rfl⟩
    · intro _; rw [ep]; exact hs
    · intro z; rw [eb] at z; exact absurd z (by decide)
    · exact ⟨⟨rfl, rfl, rfl, rfl⟩, fun _ _ _ _ => rfl⟩
    · intro _; exact ⟨⟨rfl, rfl, rfl⟩, rfl, rfl⟩
    · intro _ z; rw [eb] at z; exact absurd z (by decide)
end RD
