/-! THE WHOLE TEXT, BOTH -/
theorem lkR_le (f : Nat → Int32) {ln n e : Nat} (h : e ≤ ln) : (lkR f ln n e).2 ≤ ln := by
  unfold lkR
  split
  · split
    · exact nxE_le f h
    · exact seqR_le f _ _ h
  · exact seqR_le f _ _ h
theorem rsR_le (f : Nat → Int32) {ln n w e : Nat} (h : e ≤ ln) : (rsR f ln n w e).2 ≤ ln := by
  unfold rsR
  split
  · exact seqR_le f _ _ h
  · split
    · exact lkR_le f h
    · split
      · exact seqR_le f _ _ h
      · exact seqR_le f _ _ h
theorem gd_n {M : sg_S} {n : Nat} (h : gdM M n) : M.1 0 = nI n ∧ 2 ≤ n ∧ n ≤ 8 := by
  obtain ⟨m, c, hd, hM, _⟩ := h
  exact ⟨hM.1, hd.1.1, hd.1.2⟩
section TXT
variable {L : Nat} {xs : Nat → Int32} {P : st_P} {S : Nat → sg_S} {ln : Nat} {f : Nat → Int32}
def fQ (D D' : sg_S) : Prop := (D'.1 5 = D.1 5 ∧ D'.1 8 = D.1 8 ∧ D'.1 15 = D.1 15) ∧ ∀ k, ¬ k = 0 → ¬ k = 4 → ¬ k = 16 → D'.2 k = D.2 k
/-- one clause more -/
def txG (L : Nat) (xs : Nat → Int32) (P : st_P) (S : Nat → sg_S) (ln : Nat) (f : Nat → Int32) (k e : Nat) (M X : sg_S) : Prop := ∃ (ok : Bool) (x : Int32) (M' X' : sg_S) (n' K : Nat), (∀ A, am_wa L xs m_X3_readInto A (some x) (HP P (TT S M' X')) 10 [.ref 15, .ref 8] [] (HP P (TT S M X))) ∧ tX X' ln f (nI K) ∧ gdM M' n' ∧ (ok = true → x = -1) ∧ (ok = false → ¬ x = -1) ∧ ∀ (h : am_H) (D : sg_S), 98 + 10 < h.1 → tD D ln f → D.1 11 = nI (tkS f ln e) → D.1 12 = nI (nxE f ln e) → D.1 13 = M.1 0 → (D.1 15 = 0 ∨ (D.1 15 = 1 ∧ rM M D)) → ∃ (b : Int32) (D1 D' : sg_S), am_ok L xs m_X5_readsClause [.ref 98] (ob sgD h 98 D) (some b) (ob sgD h 98 D1) ∧ D1.1 14 = D.1 14 ∧ (∀ A, am_wa L xs m_X5_reads A (some (if ok then 1 else 0)) (ob sgD h 98 D') 32 [.ref 98, .null, .int b] [] (ob sgD h 98 (upd D1.1 14 (nI (k + 1)), D1.2))) ∧ (ok = false → D'.1 11 = x) ∧ (ok = true → D'.1 14 = nI K) ∧ fQ D D' ∧ (D.1 15 = 0 → qR D D') ∧ (D.1 15 = 1 → ok = true → rM M' D')
theorem txt_step (h2 : ln ≤ 200) {k e n : Nat} {M X : sg_S} (hk : k < 24) (ih : k + 1 < 24 → ∀ e n (M X : sg_S), tX X ln f (nI (k + 1)) → X.1 3 = nI e → e ≤ ln → gdM M n → txG L xs P S ln f (k + 1) e M X) (hX : tX X ln f (nI k)) (he : X.1 3 = nI e) (hel : e ≤ ln) (hg : gdM M n) : txG L xs P S ln f k e M X := by
  obtain ⟨hn, hn2, hn8⟩ := gd_n hg
  have hs := tkS_le f hel
  have hst := tk_nx f hel
  have htl := nxE_le f hel
  have htt : tkE f ln (tkS f ln e) = nxE f ln e := rfl
  obtain ⟨Y0, a0, a1, a2, a3⟩ := nxHP (L := L) (xs := xs) (S := S) (M := M) (P := P) hX h2 he hel
  obtain ⟨Y1, b0, b1, b2, b3⟩ := ok_readClause (L := L) (xs := xs) (S := S) (M := M) (P := P) (n := n) a1 h2 a2 a3 hst htl hn (by omega) hn8
  have hcl := hX.2.2
  have rc := fun (h : am_H) (D : sg_S) (hc : 98 + 10 < h.1) (hD : tD D ln f) (d11 : D.1 11 = nI (tkS f ln e)) (d12 : D.1 12 = nI (nxE f ln e)) (d13 : D.1 13 = M.1 0) (hdo : D.1 15 = 0 ∨ (D.1 15 = 1 ∧ rM M D)) => ok_readsClause (L := L) (xs := xs) (h := h) (D := D) (M := M) (n := n) (f := f) (s := tkS f ln e) hc hD h2 d11 d12 hs.2 (d13.trans hn) hn hg hdo
  rw [htt] at rc
  generalize hs' : tkS f ln e = s at a2 b0 b2 b3 hs hst rc
  generalize ht' : nxE f ln e = t at a3 b0 b2 b3 hst htl rc
  have k24 : nI k < 24 := nI_lt (b := 24) hk (by omega)
  cases hb : clB f ln n s t
  · -- the clause is wrong
    have hP : clP f ln n s t ≤ ln := by
      unfold clP
      split
      · exact (tkS_le f (rsR_le f htl)).2
      · exact hs.2
    rw [hb] at b0
    have y2 := b3 hb
    have em : clM f ln n s t M = M := by unfold clM; rw [hb]; rfl
    rw [em] at b0
    refine ⟨false, nI (clP f ln n s t), M, Y1, n, k, fun A => ch_X3_readInto_10 ?_, b1, hg, fun z => (by cases z), fun _ => nI_ne_m1 (by omega), fun h D hc hD d11 d12 d13 hdo => ?_⟩
    · rw [gX5, am_b_some, hcl, if_pos k24]
      refine ⟨_, a0, _, _, b0, ?_⟩
      rw [if_pos (by rfl), gX2, am_b_some, y2]
      exact ⟨fit_i _, rfl, rfl⟩
    · obtain ⟨D1, c0, c1, c2, c3, c4, c5⟩ := rc h D hc hD (d11.trans (congrArg nI hs')) (d12.trans (congrArg nI ht')) d13 hdo
      rw [hb] at c0
      refine ⟨_, D1, (upd D1.1 14 (nI (k + 1)), D1.2), c0, c3.1.2.2.1, fun A => ch_X5_reads_32 ?_, fun _ => c1 hb, fun z => (by cases z), ⟨⟨c3.1.1, c3.1.2.1, c3.1.2.2.2⟩, c3.2⟩, fun z => ⟨(c4 z).1, (c4 z).2⟩, fun _ z => (by cases z)⟩
      rw [if_pos (by rfl)]
      exact ⟨fit_0, rfl, rfl⟩
  · -- the clause is right
    rw [hb] at b0
    have y3 := b2 hb
    have hE : clE f ln n s t ≤ ln := rsR_le f htl
    have hw : wdN f s t < 4 := by
      unfold clB at hb
      rw [Bool.and_eq_true] at hb
      exact of_decide_eq_true hb.1
    have em : clM f ln n s t M = rsM f ln (wdN f s t) t M := by unfold clM; rw [hb]; rfl
    have hg1 : ∃ n', gdM (clM f ln n s t M) n' := by
      rw [em]
      refine gd_rs hw hg ?_
      unfold clB at hb
      rw [Bool.and_eq_true] at hb
      exact hb.2
    obtain ⟨n1, hg1⟩ := hg1
    generalize hM1 : clM f ln n s t M = M1 at b0 hg1 rc
    generalize hE' : clE f ln n s t = e1 at y3 hE rc
    have b1' : tX (upd Y1.1 5 (nI (k + 1)), Y1.2) ln f (nI (k + 1)) := ⟨b1.1, b1.2.1, rfl⟩
    obtain ⟨Y2, q0, q1, q2, q3⟩ := nxHP (L := L) (xs := xs) (S := S) (M := M1) (P := P) (X := (upd Y1.1 5 (nI (k + 1)), Y1.2)) b1' h2 y3 hE
    have hs1 := tkS_le f hE
    have ht1 := nxE_le f hE
    have pre : ∀ {A : am_H} {x : Int32} {E : am_H}, am_b (am_gI (HP P (TT S M1 Y2)) 15 3 2) (fun x9 => am_b (am_gI (HP P (TT S M1 Y2)) 15 3 1) (fun x10 => (if (x9 : Int32) = x10 then am_fit .int (-1 : Int32) ∧ some (-1 : Int32) = some x ∧ HP P (TT S M1 Y2) = E else am_b (am_gR (HP P (TT S M1 Y2)) 15 3 0) (fun a11 => am_b (am_gI (HP P (TT S M1 Y2)) 15 3 2) (fun x12 => am_b (am_lI (HP P (TT S M1 Y2)) .int a11 x12) (fun x13 => (if (x13 : Int32) = (59 : Int32) then am_wa L xs m_X3_readInto A (some x) E 10 [.ref 15, .ref 8] [] (HP P (TT S M1 Y2)) else am_b (am_gI (HP P (TT S M1 Y2)) 15 3 2) (fun x14 => am_fit .int x14 ∧ some x14 = some x ∧ HP P (TT S M1 Y2) = E)))))))) → am_wa L xs m_X3_readInto A (some x) E 10 [.ref 15, .ref 8] [] (HP P (TT S M X)) := by
      intro A x E H
      refine ch_X3_readInto_10 ?_
      rw [gX5, am_b_some, hcl, if_pos k24]
      refine ⟨_, a0, _, _, b0, ?_⟩
      rw [if_neg (by decide), gX5, am_b_some, b1.2.2, ← nI_succ, pX5, am_b_some]
      exact ⟨_, q0, H⟩
    have preD : ∀ (h : am_H) (D : sg_S), 98 + 10 < h.1 → tD D ln f → D.1 11 = nI s → D.1 12 = nI t → D.1 13 = M.1 0 → (D.1 15 = 0 ∨ (D.1 15 = 1 ∧ rM M D)) → ∃ D1, am_ok L xs m_X5_readsClause [.ref 98] (ob sgD h 98 D) (some 1) (ob sgD h 98 D1) ∧ D1.1 14 = D.1 14 ∧ D1.1 11 = nI (tkS f ln e1) ∧ D1.1 12 = nI (nxE f ln e1) ∧ D1.1 13 = M1.1 0 ∧ fR D D1 ∧ (D.1 15 = 0 → qR D D1) ∧ (D.1 15 = 1 → rM M1 D1) := by
      intro h D hc hD d11 d12 d13 hdo
      obtain ⟨D1, c0, c1, c2, c3, c4, c5⟩ := rc h D hc hD d11 d12 d13 hdo
      rw [hb] at c0
      exact ⟨D1, c0, c3.1.2.2.1, (c2 hb).1, (c2 hb).2.1, (c2 hb).2.2, c3, c4, fun z => c5 z hb⟩
    by_cases hend : tkS f ln e1 = ln
    · -- the text's end
      refine ⟨true, -1, M1, Y2, n1, k + 1, fun A => pre ?_, q1, hg1, fun _ => rfl, fun z => (by cases z), fun h D hc hD d11 d12 d13 hdo => ?_⟩
      · rw [gX2, am_b_some, gX1, am_b_some, q2, q1.1, if_pos (by rw [hend])]
        exact ⟨fit_i _, rfl, rfl⟩
      · obtain ⟨D1, c0, c1, c2, c3, c4, c5, c6, c7⟩ := preD h D hc hD (d11.trans (congrArg nI hs')) (d12.trans (congrArg nI ht')) d13 hdo
        refine ⟨_, D1, (upd D1.1 14 (nI (k + 1)), D1.2), c0, c1, fun A => ch_X5_reads_32 ?_, fun z => (by cases z), fun _ => rfl, ⟨⟨c5.1.1, c5.1.2.1, c5.1.2.2.2⟩, c5.2⟩, fun z => ⟨(c6 z).1, (c6 z).2⟩, fun z _ => c7 z⟩
        rw [if_neg (by decide)]
        have g11 : (upd D1.1 14 (nI (k + 1))) 11 = nI (tkS f ln e1) := c2
        have g8 : (upd D1.1 14 (nI (k + 1))) 8 = nI ln := c5.1.2.1.trans hD.1
        simp only [cD hc, gD_0 hc, gD_1 hc, gD_2 hc, gD_3 hc, gD_4 hc, gD_5 hc, gD_6 hc, gD_7 hc, gD_8 hc, gD_9 hc, gD_10 hc, gD_11 hc, gD_12 hc, gD_13 hc, gD_14 hc, gD_15 hc, gD_16 hc, gD_17 hc, gD_18 hc, gD_19 hc, pD_1 hc, pD_2 hc, pD_3 hc, pD_5 hc, pD_8 hc, pD_11 hc, pD_12 hc, pD_13 hc, pD_14 hc, pD_15 hc, am_b_some, g11, g8]
        rw [if_neg (nI_nlt (by omega) (by omega))]
        exact ⟨fit_1, by first | rfl | trivial, by first | rfl | trivial⟩
    · have hlt : tkS f ln e1 < ln := by omega
      have hne : ¬ nI (tkS f ln e1) = nI ln := nI_ne (by omega) (by omega) hend
      by_cases h59 : f (tkS f ln e1) = 59
      · by_cases hk1 : k + 1 < 24
        · -- one more
          obtain ⟨ok, x, M', X', n', K, p1, p2, p3, p4, p5, p6⟩ := ih hk1 (nxE f ln e1) n1 M1 Y2 q1 q3 ht1 hg1
          refine ⟨ok, x, M', X', n', K, fun A => pre ?_, p2, p3, p4, p5, fun h D hc hD d11 d12 d13 hdo => ?_⟩
          · rw [gX2, am_b_some, gX1, am_b_some, q2, q1.1, if_neg hne, gX0, am_b_some, am_b_some, lX0 (by omega), am_b_some, q1.2.1, if_pos h59]
            exact p1 A
          · obtain ⟨D1, c0, c1, c2, c3, c4, c5, c6, c7⟩ := preD h D hc hD (d11.trans (congrArg nI hs')) (d12.trans (congrArg nI ht')) d13 hdo
            have tD1 : tD (upd D1.1 14 (nI (k + 1)), D1.2) ln f := ⟨c5.1.2.1.trans hD.1, fun i hi => by
              show D1.2 7 i = _
              rw [c5.2 7 (by omega) (by omega) (by omega)]; exact hD.2.1 i hi, fun i hi => by
              show D1.2 17 i = _
              rw [c5.2 17 (by omega) (by omega) (by omega)]; exact hD.2.2 i hi⟩
            have nx := ok_nxD (L := L) (xs := xs) (h := h) (D := (upd D1.1 14 (nI (k + 1)), D1.2)) (g := D1.2 16) (s := tkS f ln e1) (t := nxE f ln e1) hc tD1 h2 ht1
            rw [nD_self (D := (upd D1.1 14 (nI (k + 1)), D1.2)) c2 c3] at nx
            generalize hB : nD (upd D1.1 14 (nI (k + 1)), D1.2) (tkS f ln (nxE f ln e1)) (nxE f ln (nxE f ln e1)) (D1.2 16) = B at nx
            have bk : ∀ j, ¬ j = 11 → ¬ j = 12 → ¬ j = 14 → B.1 j = D1.1 j := fun j z1 z2 z3 => by
              rw [← hB]
              show upd (upd (upd D1.1 14 _) 11 _) 12 _ j = _
              rw [upd_ne _ _ z2, upd_ne _ _ z1, upd_ne _ _ z3]
            have bv : B.2 = D1.2 := by
              rw [← hB]
              show va_up D1.2 16 (D1.2 16) = _
              rw [vu_id]
            have b14 : B.1 14 = nI (k + 1) := by rw [← hB]; rfl
            have b15 : B.1 15 = D.1 15 := (bk 15 (by omega) (by omega) (by omega)).trans c5.1.2.2.2
            have bdo : B.1 15 = 0 ∨ (B.1 15 = 1 ∧ rM M1 B) := by
              rw [b15]
              rcases hdo with z | ⟨z, _⟩
              · exact Or.inl z
              · obtain ⟨⟨m1, m2, m3⟩, m4⟩ := c7 z
                refine Or.inr ⟨z, ⟨?_, ?_, ?_⟩, ?_⟩
                · rw [bk 1 (by omega) (by omega) (by omega)]; exact m1
                · rw [bk 2 (by omega) (by omega) (by omega)]; exact m2
                · rw [bk 3 (by omega) (by omega) (by omega)]; exact m3
                · rw [bv]; exact m4
            obtain ⟨b, D2, D', r0, r1, r2, r3, r4, r5, r6, r7⟩ := p6 h B hc ⟨(bk 8 (by omega) (by omega) (by omega)).trans (c5.1.2.1.trans hD.1), by rw [bv]; exact tD1.2.1, by rw [bv]; exact tD1.2.2⟩ (by rw [← hB]; rfl) (by rw [← hB]; rfl) ((bk 13 (by omega) (by omega) (by omega)).trans c4) bdo
            refine ⟨_, D1, D', c0, c1, fun A => ch_X5_reads_32 ?_, r3, r4, ?_, fun z => ?_, fun z => r7 (b15.trans z)⟩
            · rw [if_neg (by decide)]
              have g11 : (upd D1.1 14 (nI (k + 1))) 11 = nI (tkS f ln e1) := c2
              have g8 : (upd D1.1 14 (nI (k + 1))) 8 = nI ln := c5.1.2.1.trans hD.1
              have f7 : D1.2 7 (tkS f ln e1) = 59 := (tD1.2.1 _ hlt).trans h59
              simp only [cD hc, gD_0 hc, gD_1 hc, gD_2 hc, gD_3 hc, gD_4 hc, gD_5 hc, gD_6 hc, gD_7 hc, gD_8 hc, gD_9 hc, gD_10 hc, gD_11 hc, gD_12 hc, gD_13 hc, gD_14 hc, gD_15 hc, gD_16 hc, gD_17 hc, gD_18 hc, gD_19 hc, pD_1 hc, pD_2 hc, pD_3 hc, pD_5 hc, pD_8 hc, pD_11 hc, pD_12 hc, pD_13 hc, pD_14 hc, pD_15 hc, am_b_some, g11, g8, upd_at, lD_7 hc (show tkS f ln e1 < 200 by omega), f7]
              rw [if_pos (nI_lt hlt (by omega)), if_pos (show nI (k + 1) < 24 from nI_lt (b := 24) hk1 (by omega)), if_pos trivial, if_neg (by decide)]
              refine ⟨_, nx, _, _, r0, ?_⟩
              simp only [cD hc, gD_0 hc, gD_1 hc, gD_2 hc, gD_3 hc, gD_4 hc, gD_5 hc, gD_6 hc, gD_7 hc, gD_8 hc, gD_9 hc, gD_10 hc, gD_11 hc, gD_12 hc, gD_13 hc, gD_14 hc, gD_15 hc, gD_16 hc, gD_17 hc, gD_18 hc, gD_19 hc, pD_1 hc, pD_2 hc, pD_3 hc, pD_5 hc, pD_8 hc, pD_11 hc, pD_12 hc, pD_13 hc, pD_14 hc, pD_15 hc, am_b_some]
              rw [r1, b14, ← nI_succ]
              exact r2 A
            · refine ⟨⟨?_, ?_, ?_⟩, fun j z1 z2 z3 => ?_⟩
              · rw [r5.1.1, bk 5 (by omega) (by omega) (by omega)]; exact c5.1.1
              · rw [r5.1.2.1, bk 8 (by omega) (by omega) (by omega)]; exact c5.1.2.1
              · rw [r5.1.2.2, b15]
              · rw [r5.2 j z1 z2 z3, bv]; exact c5.2 j z1 z2 z3
            · obtain ⟨⟨m1, m2, m3⟩, m4, m5⟩ := r6 (b15.trans z)
              obtain ⟨⟨o1, o2, o3⟩, o4, o5⟩ := c6 z
              refine ⟨⟨?_, ?_, ?_⟩, ?_, ?_⟩
              · rw [m1, bk 1 (by omega) (by omega) (by omega)]; exact o1
              · rw [m2, bk 2 (by omega) (by omega) (by omega)]; exact o2
              · rw [m3, bk 3 (by omega) (by omega) (by omega)]; exact o3
              · rw [m4, bv]; exact o4
              · rw [m5, bv]; exact o5
        · -- behind the last clause that may be
          refine ⟨false, nI (tkS f ln e1), M1, Y2, n1, k + 1, fun A => pre ?_, q1, hg1, fun z => (by cases z), fun _ => nI_ne_m1 (by omega), fun h D hc hD d11 d12 d13 hdo => ?_⟩
          · rw [gX2, am_b_some, gX1, am_b_some, q2, q1.1, if_neg hne, gX0, am_b_some, am_b_some, lX0 (by omega), am_b_some, q1.2.1, if_pos h59]
            refine ch_X3_readInto_10 ?_
            rw [gX5, am_b_some, q1.2.2, if_neg (show ¬ nI (k + 1) < 24 from nI_nlt (a := k + 1) (b := 24) (by omega) (by omega)), gX2, am_b_some, q2]
            exact ⟨fit_i _, rfl, rfl⟩
          · obtain ⟨D1, c0, c1, c2, c3, c4, c5, c6, c7⟩ := preD h D hc hD (d11.trans (congrArg nI hs')) (d12.trans (congrArg nI ht')) d13 hdo
            refine ⟨_, D1, (upd D1.1 14 (nI (k + 1)), D1.2), c0, c1, fun A => ch_X5_reads_32 ?_, fun _ => c2, fun z => (by cases z), ⟨⟨c5.1.1, c5.1.2.1, c5.1.2.2.2⟩, c5.2⟩, fun z => ⟨(c6 z).1, (c6 z).2⟩, fun _ z => (by cases z)⟩
            rw [if_neg (by decide)]
            have g11 : (upd D1.1 14 (nI (k + 1))) 11 = nI (tkS f ln e1) := c2
            have g8 : (upd D1.1 14 (nI (k + 1))) 8 = nI ln := c5.1.2.1.trans hD.1
            simp only [cD hc, gD_0 hc, gD_1 hc, gD_2 hc, gD_3 hc, gD_4 hc, gD_5 hc, gD_6 hc, gD_7 hc, gD_8 hc, gD_9 hc, gD_10 hc, gD_11 hc, gD_12 hc, gD_13 hc, gD_14 hc, gD_15 hc, gD_16 hc, gD_17 hc, gD_18 hc, gD_19 hc, pD_1 hc, pD_2 hc, pD_3 hc, pD_5 hc, pD_8 hc, pD_11 hc, pD_12 hc, pD_13 hc, pD_14 hc, pD_15 hc, am_b_some, g11, g8, upd_at]
            rw [if_pos (nI_lt hlt (by omega)), if_neg (show ¬ nI (k + 1) < 24 from nI_nlt (a := k + 1) (b := 24) (by omega) (by omega)), if_pos trivial]
            refine ch_X5_reads_32 ?_
            rw [if_pos rfl]
            exact ⟨fit_0, rfl, rfl⟩
      · -- no ; stands there
        refine ⟨false, nI (tkS f ln e1), M1, Y2, n1, k + 1, fun A => pre ?_, q1, hg1, fun z => (by cases z), fun _ => nI_ne_m1 (by omega), fun h D hc hD d11 d12 d13 hdo => ?_⟩
        · rw [gX2, am_b_some, gX1, am_b_some, q2, q1.1, if_neg hne, gX0, am_b_some, am_b_some, lX0 (by omega), am_b_some, q1.2.1, if_neg h59, am_b_some]
          exact ⟨fit_i _, rfl, rfl⟩
        · obtain ⟨D1, c0, c1, c2, c3, c4, c5, c6, c7⟩ := preD h D hc hD (d11.trans (congrArg nI hs')) (d12.trans (congrArg nI ht')) d13 hdo
          refine ⟨_, D1, (upd D1.1 14 (nI (k + 1)), D1.2), c0, c1, fun A => ch_X5_reads_32 ?_, fun _ => c2, fun z => (by cases z), ⟨⟨c5.1.1, c5.1.2.1, c5.1.2.2.2⟩, c5.2⟩, fun z => ⟨(c6 z).1, (c6 z).2⟩, fun _ z => (by cases z)⟩
          rw [if_neg (by decide)]
          have g11 : (upd D1.1 14 (nI (k + 1))) 11 = nI (tkS f ln e1) := c2
          have g8 : (upd D1.1 14 (nI (k + 1))) 8 = nI ln := c5.1.2.1.trans hD.1
          have f7 : D1.2 7 (tkS f ln e1) = f (tkS f ln e1) := by rw [c5.2 7 (by omega) (by omega) (by omega)]; exact hD.2.1 _ hlt
          have last : am_wa L xs m_X5_reads A (some (if false then 1 else 0)) (ob sgD h 98 (upd D1.1 14 (nI (k + 1)), D1.2)) 32 [.ref 98, .null, .int 0] [] (ob sgD h 98 (upd D1.1 14 (nI (k + 1)), D1.2)) := by
            refine ch_X5_reads_32 ?_
            rw [if_pos rfl]
            exact ⟨fit_0, rfl, rfl⟩
          simp only [cD hc, gD_0 hc, gD_1 hc, gD_2 hc, gD_3 hc, gD_4 hc, gD_5 hc, gD_6 hc, gD_7 hc, gD_8 hc, gD_9 hc, gD_10 hc, gD_11 hc, gD_12 hc, gD_13 hc, gD_14 hc, gD_15 hc, gD_16 hc, gD_17 hc, gD_18 hc, gD_19 hc, pD_1 hc, pD_2 hc, pD_3 hc, pD_5 hc, pD_8 hc, pD_11 hc, pD_12 hc, pD_13 hc, pD_14 hc, pD_15 hc, am_b_some, g11, g8, upd_at, lD_7 hc (show tkS f ln e1 < 200 by omega), f7]
          rw [if_pos (nI_lt hlt (by omega))]
          refine br2 (fun z => ?_) (fun z => ?_)
          · rw [if_neg h59, if_pos trivial]
            exact last
          · rw [if_pos trivial]
            exact last
theorem txt (h2 : ln ≤ 200) : ∀ fu k e n (M X : sg_S), k + (fu + 1) = 24 → tX X ln f (nI k) → X.1 3 = nI e → e ≤ ln → gdM M n → txG L xs P S ln f k e M X := by
  intro fu
  induction fu with
  | zero =>
    intro k e n M X hk hX he hel hg
    exact txt_step h2 (by omega) (fun z => by omega) hX he hel hg
  | succ fu ih =>
    intro k e n M X hk hX he hel hg
    exact txt_step h2 (by omega) (fun _ e n M X a b c d => ih (k + 1) e n M X (by omega) a b c d) hX he hel hg
end TXT
