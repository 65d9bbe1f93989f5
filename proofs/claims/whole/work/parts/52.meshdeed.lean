/-! MESH: both -/
def loseT (T : sg_S) : sg_S := (upd (upd T.1 2 1) 1 0, T.2)
def TL (S : Nat → sg_S) (i : Nat) : Nat → sg_S := fun j => if 13 ≤ j ∧ j < 13 + i then loseT (S j) else S j
theorem TL_s (S : Nat → sg_S) (i : Nat) : va_up (TL S i) (13 + i) (loseT (TL S i (13 + i))) = TL S (i + 1) := by
  funext j
  unfold va_up TL
  by_cases q : j = 13 + i
  · subst q
    rw [if_pos rfl, if_neg (by omega), if_pos (by omega)]
  · rw [if_neg q]
    by_cases q2 : 13 ≤ j ∧ j < 13 + i
    · rw [if_pos q2, if_pos (by omega)]
    · rw [if_neg q2, if_neg (by omega)]
theorem TL_0 (S : Nat → sg_S) : TL S 0 = S := by
  funext j
  unfold TL
  rw [if_neg (by omega)]
theorem TL_ne (S : Nat → sg_S) (i : Nat) {j : Nat} (h : j < 13 ∨ 16 ≤ j) (hi : i ≤ 3) : TL S i j = S j := by
  unfold TL
  rw [if_neg (by omega)]
section MD
variable {L : Nat} {xs : Nat → Int32} {P : st_P} {S : Nat → sg_S} {h : am_H} {n m c : Nat}
/-- the reference's row behind mesh -/
def mR (r : Nat → Int32) : Nat → Int32 := upd (fb_put (fb_put r (fun _ => 0) 9 8) (fun _ => 0) 25 5) 30 0
def mDD (D : sg_S) : sg_S := (upd (upd D.1 8 0) 5 0, va_up (va_up (va_up D.2 0 (mR (D.2 0))) 6 (upd (upd (D.2 6) 0 0) 1 0)) 9 (fb_put (D.2 9) (fun _ => -1) 0 3))
theorem ok_meshEnd {D : sg_S} {A : am_H} (hc : 98 + 10 < h.1) : am_wa L xs m_X5_mesh A (some (D.1 14)) (ob sgD h 98 (mDD D)) 19 [.ref 98, .int 0] [] (ob sgD h 98 D) := by
  have e9 : ∀ i, (9 : Int32) + nI i = nI (9 + i) := fun i => nI_add 9 i
  have e25 : ∀ i, (25 : Int32) + nI i = nI (25 + i) := fun i => nI_add 25 i
  have key := up_to (P := fun i => am_wa L xs m_X5_mesh A (some (D.1 14)) (ob sgD h 98 (mDD D)) 19 [.ref 98, .int (nI i)] [] (ob sgD h 98 (D.1, va_up D.2 0 (fb_put (D.2 0) (fun _ => 0) 9 i)))) 8 ?_ ?_ 0 (by omega)
  · rw [fb_put_0, vu_id] at key
    exact key
  · refine ch_X5_mesh_19 ?_
    rw [if_neg (by decide +kernel)]
    have key := up_to (P := fun i => am_wa L xs m_X5_mesh A (some (D.1 14)) (ob sgD h 98 (mDD D)) 43 [.ref 98, .int (nI i)] [] (ob sgD h 98 (D.1, va_up D.2 0 (fb_put (fb_put (D.2 0) (fun _ => 0) 9 8) (fun _ => 0) 25 i)))) 5 ?_ ?_ 0 (by omega)
    · rw [fb_put_0] at key
      exact key
    · refine ch_X5_mesh_43 ?_
      rw [if_neg (by decide +kernel)]
      have s30 : ∀ (S : sg_S) (x : Int32), am_sI (ob sgD h 98 S) .int (98 + 1) 30 x = some (ob sgD h 98 (S.1, va_up S.2 0 (upd (S.2 0) 30 x))) := fun S x => sD_0 (i := 30) hc (by omega)
      have s60 : ∀ (S : sg_S) (x : Int32), am_sI (ob sgD h 98 S) .boolean (98 + 3) 0 x = some (ob sgD h 98 (S.1, va_up S.2 6 (upd (S.2 6) 0 x))) := fun S x => sD_6 (i := 0) hc (by omega)
      have s61 : ∀ (S : sg_S) (x : Int32), am_sI (ob sgD h 98 S) .boolean (98 + 3) 1 x = some (ob sgD h 98 (S.1, va_up S.2 6 (upd (S.2 6) 1 x))) := fun S x => sD_6 (i := 1) hc (by omega)
      simp only [cD hc, gD_0 hc, gD_1 hc, gD_2 hc, gD_3 hc, gD_4 hc, gD_5 hc, gD_6 hc, gD_7 hc, gD_8 hc, gD_9 hc, gD_10 hc, gD_11 hc, gD_12 hc, gD_13 hc, gD_14 hc, gD_15 hc, gD_16 hc, gD_17 hc, gD_18 hc, gD_19 hc, pD_1 hc, pD_2 hc, pD_3 hc, pD_5 hc, pD_8 hc, pD_11 hc, pD_12 hc, pD_13 hc, pD_14 hc, pD_15 hc, am_b_some, s30, s60, s61, vu_at, vu_vu, vu_ne _ _ (show ¬ 6 = 0 by decide)]
      refine ⟨Or.inl trivial, Or.inl trivial, ?_⟩
      have key := up_to (P := fun i => am_wa L xs m_X5_mesh A (some (D.1 14)) (ob sgD h 98 (mDD D)) 98 [.ref 98, .int (nI i)] [] (ob sgD h 98 (upd (upd D.1 8 0) 5 0, va_up (va_up (va_up D.2 0 (mR (D.2 0))) 6 (upd (upd (D.2 6) 0 0) 1 0)) 9 (fb_put (D.2 9) (fun _ => -1) 0 i)))) 3 ?_ ?_ 0 (by omega)
      · rw [fb_put_0, show D.2 9 = va_up (va_up D.2 0 (mR (D.2 0))) 6 (upd (upd (D.2 6) 0 0) 1 0) 9 from rfl, vu_id] at key
        exact key
      · refine ch_X5_mesh_98 ?_
        rw [if_neg (by decide +kernel)]
        simp only [cD hc, gD_0 hc, gD_1 hc, gD_2 hc, gD_3 hc, gD_4 hc, gD_5 hc, gD_6 hc, gD_7 hc, gD_8 hc, gD_9 hc, gD_10 hc, gD_11 hc, gD_12 hc, gD_13 hc, gD_14 hc, gD_15 hc, gD_16 hc, gD_17 hc, gD_18 hc, gD_19 hc, pD_1 hc, pD_2 hc, pD_3 hc, pD_5 hc, pD_8 hc, pD_11 hc, pD_12 hc, pD_13 hc, pD_14 hc, pD_15 hc, am_b_some]
        first | exact ⟨fit_i _, rfl, rfl⟩ | exact ⟨fit_i _, rfl, trivial⟩ | exact ⟨fit_i _, trivial, rfl⟩ | exact ⟨fit_i _, trivial, trivial⟩
      · intro i hi ih
        refine ch_X5_mesh_98 ?_
        rw [if_pos (show nI i < 3 from nI_lt (b := 3) hi (by omega))]
        simp only [cD hc, gD_0 hc, gD_1 hc, gD_2 hc, gD_3 hc, gD_4 hc, gD_5 hc, gD_6 hc, gD_7 hc, gD_8 hc, gD_9 hc, gD_10 hc, gD_11 hc, gD_12 hc, gD_13 hc, gD_14 hc, gD_15 hc, gD_16 hc, gD_17 hc, gD_18 hc, gD_19 hc, pD_1 hc, pD_2 hc, pD_3 hc, pD_5 hc, pD_8 hc, pD_11 hc, pD_12 hc, pD_13 hc, pD_14 hc, pD_15 hc, am_b_some, sD_9 hc hi, vu_at, vu_vu]
        have := fb_put_succ (D.2 9) (fun _ => -1) 0 i
        rw [Nat.zero_add] at this
        rw [this, ← nI_succ]
        exact ih
    · intro i hi ih
      refine ch_X5_mesh_43 ?_
      rw [if_pos (show nI i < 5 from nI_lt (b := 5) hi (by omega))]
      simp only [cD hc, gD_0 hc, gD_1 hc, gD_2 hc, gD_3 hc, gD_4 hc, gD_5 hc, gD_6 hc, gD_7 hc, gD_8 hc, gD_9 hc, gD_10 hc, gD_11 hc, gD_12 hc, gD_13 hc, gD_14 hc, gD_15 hc, gD_16 hc, gD_17 hc, gD_18 hc, gD_19 hc, pD_1 hc, pD_2 hc, pD_3 hc, pD_5 hc, pD_8 hc, pD_11 hc, pD_12 hc, pD_13 hc, pD_14 hc, pD_15 hc, am_b_some, e25, sD_0 hc (show 25 + i < 372 by omega), vu_at, vu_vu]
      rw [fb_put_succ _ (fun _ => 0) 25 i, ← nI_succ]
      exact ih
  · intro i hi ih
    refine ch_X5_mesh_19 ?_
    rw [if_pos (show nI i < 8 from nI_lt (b := 8) hi (by omega))]
    simp only [cD hc, gD_0 hc, gD_1 hc, gD_2 hc, gD_3 hc, gD_4 hc, gD_5 hc, gD_6 hc, gD_7 hc, gD_8 hc, gD_9 hc, gD_10 hc, gD_11 hc, gD_12 hc, gD_13 hc, gD_14 hc, gD_15 hc, gD_16 hc, gD_17 hc, gD_18 hc, gD_19 hc, pD_1 hc, pD_2 hc, pD_3 hc, pD_5 hc, pD_8 hc, pD_11 hc, pD_12 hc, pD_13 hc, pD_14 hc, pD_15 hc, am_b_some, e9, sD_0 hc (show 9 + i < 372 by omega), vu_at, vu_vu]
    rw [fb_put_succ _ (fun _ => 0) 9 i, ← nI_succ]
    exact ih
/-- now behind mesh -/
def mN (N M : sg_S) : sg_S := (upd (cpyM N M).1 4 0, va_up (cpyM N M).2 8 (fillF 8 0 ((cpyM N M).2 8)))
theorem both_mesh (hI : INVn n m c P S) : both L xs P S m_X4_mesh m_X5_mesh [] := by
  obtain ⟨ok, x, M', X', n', K, ln, h2, p1, p2, p3, p4, p5, p6, p7, p8⟩ := rd0 (L := L) (xs := xs) hI
  have hw := hI.1.2.2.1
  have hZ := hI.2.2.2.2.2
  obtain ⟨m', c', hd', hM', hl', h4', tz, hs', hL'⟩ := id p3
  cases ok
  · -- a fault
    obtain ⟨D', r0, r1, r2, r3, r4, r5, r6⟩ := p8 (HP P (TT S M' X')) (S 16) 0 bD p6 rfl (Or.inl rfl)
    obtain ⟨⟨q1, q2, q3⟩, q4, q5⟩ := r5 rfl
    have I2 := INV_text hI (M := M') (X := X') (D := D') tz ⟨q1, q2, q3, r3.1⟩ (fun k hk => by
      rcases hk with rfl | rfl | rfl | rfl | rfl
      · exact q4
      · exact q5
      · exact r4 6 (by omega) (by omega) (by omega)
      · exact r4 9 (by omega) (by omega) (by omega)
      · exact r4 10 (by omega) (by omega) (by omega)) ⟨⟨ln, h2, p2.1, r3.2.trans p6.1, fun i hi => by rw [p2.2.1, r4 7 (by omega) (by omega) (by omega), p6.2.1 i hi]⟩, fun i hi => by rw [r4 17 (by omega) (by omega) (by omega)]; exact p6.2.2 i hi⟩
    refine both_at (x := -4) (P' := P) (S1 := TT S M' X') (D' := D') ⟨n, m, c, I2⟩ (by unfold TT; rw [vu_ne _ _ (by omega), vu_ne _ _ (by omega)]) ?_ ?_
    · refine en_X4_mesh k_0 HP_12 HP_22 (ch_X4_mesh_0 ?_)
      simp only [f0_0, f0_1, am_b_some]
      refine ⟨_, cpy (jb := 1) (jc := 0) 8 1 (fun S N => foT) (fun S N => foN) (by omega) (by omega) (by omega) hw.2.2.1, ?_⟩
      simp only [f0_2, f0_1, am_b_some]
      refine ⟨_, _, p1, ?_⟩
      rw [if_neg (p5 rfl)]
      (first | exact ⟨fit_i _, rfl, rfl⟩ | exact ⟨fit_i _, rfl, trivial⟩ | exact ⟨fit_i _, trivial, rfl⟩ | exact ⟨fit_i _, trivial, trivial⟩)
    · refine en_X5_mesh (cD bD) rfl rfl (ch_X5_mesh_0 ⟨_, _, r0, ?_⟩)
      rw [if_pos (by rfl)]
      exact ⟨fit_i _, rfl, rfl⟩
  · -- none
    have hx := p4 rfl
    subst hx
    -- the class
    have hTM : TT S M' X' 1 = M' := TT_1
    have hT0 : TT S M' X' 0 = S 0 := by unfold TT; rw [vu_ne _ _ (by omega), vu_ne _ _ (by omega)]
    generalize hU : va_up (TT S M' X') 0 (mN (S 0) M') = U
    have uj : ∀ j, ¬ j = 0 → ¬ j = 1 → ¬ j = 12 → U j = S j := fun j q1 q2 q3 => by
      rw [← hU, vu_ne _ _ q1]
      unfold TT
      rw [vu_ne _ _ q3, vu_ne _ _ q2]
    have u0 : U 0 = mN (S 0) M' := by rw [← hU, vu_at]
    have u1 : U 1 = M' := by rw [← hU, vu_ne _ _ (by omega), TT_1]
    have u12 : U 12 = X' := by rw [← hU, vu_ne _ _ (by omega), TT_12]
    generalize hS1 : va_up (TL U 3) 12 (upd X'.1 1 0, X'.2) = S1
    have s12 : S1 12 = (upd X'.1 1 0, X'.2) := by rw [← hS1, vu_at]
    have sj : ∀ j, ¬ j = 12 → (j < 13 ∨ 16 ≤ j) → S1 j = U j := fun j q1 q2 => by rw [← hS1, vu_ne _ _ q1, TL_ne _ _ q2 (by omega)]
    have st : ∀ t, t < 3 → S1 (13 + t) = loseT (S (13 + t)) := fun t ht => by
      rw [← hS1, vu_ne _ _ (by omega)]
      unfold TL
      rw [if_pos (by omega), uj _ (by omega) (by omega) (by omega)]
    have s16 : S1 16 = S 16 := by rw [sj 16 (by omega) (by omega), uj 16 (by omega) (by omega) (by omega)]
    have hC : am_ok L xs m_X4_mesh [.ref 0] (HP P S) (some (nI K)) (HP (P.1, 0, upd (upd P.2.2 0 0) 1 0) S1) := by
      refine en_X4_mesh k_0 HP_12 HP_22 (ch_X4_mesh_0 ?_)
      simp only [f0_0, f0_1, am_b_some]
      refine ⟨_, cpy (jb := 1) (jc := 0) 8 1 (fun S N => foT) (fun S N => foN) (by omega) (by omega) (by omega) hw.2.2.1, ?_⟩
      simp only [f0_2, f0_1, am_b_some]
      refine ⟨_, _, p1, ?_⟩
      rw [if_pos rfl]
      simp only [f0_0, f0_1, am_b_some]
      have cp := cpy (L := L) (xs := xs) (P := P) (S := TT S M' X') (jb := 0) (jc := 1) 1 8 (fun S N => foN) (fun S N => foT) (by omega) (by omega) (by omega) (by rw [hTM]; exact h4')
      rw [hTM, hT0] at cp
      refine ⟨_, cp, ?_⟩
      simp only [f0_0, am_b_some]
      have fc := onN (L := L) (xs := xs) (P := P) (S := va_up (TT S M' X') 0 (cpyM (S 0) M')) (ok_forgetCycles bN)
      rw [vu_vu, vu_at] at fc
      refine ⟨_, fc, ?_⟩
      rw [show va_up (TT S M' X') 0 (upd (cpyM (S 0) M').1 4 0, va_up (cpyM (S 0) M').2 8 (fillF 8 0 ((cpyM (S 0) M').2 8))) = U from hU]
      simp only [f0_3, am_b_some]
      refine ⟨_, ok_forget, ?_⟩
      refine ch_X4_mesh_56 ?_
      rw [if_pos (by decide +kernel), f0_5, am_b_some]
      refine ⟨Or.inl rfl, ?_⟩
      rw [show (0 : Int32) = nI 0 from rfl, s76 (by omega), am_b_some]
      refine ch_X4_mesh_56 ?_
      rw [if_pos (by decide +kernel), f0_5, am_b_some]
      refine ⟨Or.inl rfl, ?_⟩
      rw [show nI 0 + 1 = nI 1 from rfl, s76 (by omega), am_b_some]
      refine ch_X4_mesh_56 ?_
      rw [if_neg (by decide +kernel)]
      generalize hP : ((P.1, nI 0, upd (upd P.2.2 0 (nI 0)) 1 0) : st_P) = P1
      have key := up_to (P := fun i => am_wa L xs m_X4_mesh (HP P S) (some (nI K)) (HP P1 S1) 76 [.ref 0, .int (nI i)] [] (HP P1 (TL U i))) 3 ?_ ?_ 0 (by omega)
      · rw [TL_0] at key
        rw [← hP] at key ⊢
        exact key
      · refine ch_X4_mesh_76 ?_
        rw [if_neg (by decide +kernel), f0_2, am_b_some]
        have e12 : TL U 3 12 = X' := by rw [TL_ne _ _ (by omega) (by omega), u12]
        have cl := onX (L := L) (xs := xs) (P := P1) (S := TL U 3) (ok_clear bX)
        rw [e12, hS1] at cl
        refine ⟨_, _, cl, ?_⟩
        rw [f0_2, am_b_some]
        have cr : am_ok L xs m_X3_clausesRead [.ref 15] (HP P1 S1) (some (nI K)) (HP P1 S1) := by
          refine en_X3_clausesRead kX HP_12 HP_22 (ch_X3_clausesRead_0 ?_)
          conv => enter [1]; rw [← fiX (P := P1) (S := S1)]
          rw [gX_5 bX, am_b_some, s12]
          refine ⟨fit_i _, ?_, rfl⟩
          rw [show (upd X'.1 1 0, X'.2).1 5 = X'.1 5 from rfl, p2.2.2]
        exact ⟨_, _, cr, fit_i _, rfl, rfl⟩
      · intro i hi ih
        refine ch_X4_mesh_76 ?_
        rw [if_pos (show nI i < 3 from nI_lt (b := 3) hi (by omega)), f0_6, am_b_some, a77 hi, am_b_some]
        have lo := onY (L := L) (xs := xs) (P := P1) (S := TL U i) hi (ok_lose (bY hi))
        rw [show (upd (upd (TL U i (13 + i)).1 2 1) 1 0, (TL U i (13 + i)).2) = loseT (TL U i (13 + i)) from rfl, TL_s] at lo
        refine ⟨_, lo, ?_⟩
        rw [← nI_succ]
        exact ih
    -- the reference
    obtain ⟨D1, r0, r1, r2, r3, r4, r5, r6⟩ := p8 (HP (P.1, 0, upd (upd P.2.2 0 0) 1 0) S1) (S 16) 0 bD p6 rfl (Or.inl rfl)
    obtain ⟨⟨q1, q2, q3⟩, q4, q5⟩ := r5 rfl
    have tD1 : tD D1 ln ((S 12).2 0) := ⟨r3.2.trans p6.1, fun i hi => by rw [r4 7 (by omega) (by omega) (by omega)]; exact p6.2.1 i hi, fun i hi => by rw [r4 17 (by omega) (by omega) (by omega)]; exact p6.2.2 i hi⟩
    have rM1 : rM (cpyM (S 1) (S 0)) D1 := by
      obtain ⟨⟨m1, m2, m3⟩, m4⟩ := p7
      refine ⟨⟨q1.trans m1, q2.trans m2, q3.trans m3⟩, ?_⟩
      rw [q4, q5]; exact m4
    obtain ⟨D2, t0, t1, t2, t3, t4, t5, t6⟩ := p8 (HP (P.1, 0, upd (upd P.2.2 0 0) 1 0) S1) D1 1 bD tD1 q1 (Or.inr ⟨rfl, rM1⟩)
    obtain ⟨⟨m1, m2, m3⟩, m4, m5, m6, m7⟩ := t6 rfl rfl
    have hD : am_ok L xs m_X5_mesh [.ref 98] (ob sgD (HP (P.1, 0, upd (upd P.2.2 0 0) 1 0) S1) 98 (S 16)) (some (nI K)) (ob sgD (HP (P.1, 0, upd (upd P.2.2 0 0) 1 0) S1) 98 (mDD D2)) := by
      refine en_X5_mesh (cD bD) rfl rfl (ch_X5_mesh_0 ⟨_, _, r0, ?_⟩)
      rw [if_neg (by decide)]
      refine ⟨_, _, t0, ?_⟩
      have := ok_meshEnd (L := L) (xs := xs) (h := HP (P.1, 0, upd (upd P.2.2 0 0) 1 0) S1) (D := D2) (A := ob sgD (HP (P.1, 0, upd (upd P.2.2 0 0) 1 0) S1) 98 (S 16)) bD
      rw [t2 rfl] at this
      exact this
    -- what holds behind
    have n5 : (mN (S 0) M').2 5 = M'.2 5 := cpy_5 (hZ 0 (by omega)) tz
    have n6 : (mN (S 0) M').2 6 = M'.2 6 := cpy_6 (hZ 0 (by omega)) tz
    have n7 : (mN (S 0) M').2 7 = M'.2 7 := cpy_7 (hZ 0 (by omega)) tz
    have n8 : (mN (S 0) M').2 8 = fun _ => 0 := by
      show fillF 8 0 ((cpyM (S 0) M').2 8) = _
      rw [cpy_8 (hZ 0 (by omega)) tz]
      exact fill_z tz.2.2.2
    have hwN : wfS (mN (S 0) M') n' m' c' := by
      refine ⟨⟨hM'.1, hM'.2.1, hM'.2.2⟩, hl', Or.inl rfl, ?_, ⟨?_, ?_⟩, ?_, ?_⟩
      · rw [n5]; exact tz.1
      · rw [n6]; exact tz.2.1
      · rw [n6]; exact hs'
      · rw [n7]; exact hL'
      · rw [n8]
        exact ⟨fun _ _ => rfl, fun v _ s _ z => by rw [b_0] at z; exact absurd z (by decide)⟩
    have mr : ∀ a, a + 8 ≤ 9 ∨ (17 ≤ a ∧ a + 8 ≤ 25) → seg (fun j => mR (D2.2 0) (0 + j)) a = seg (D2.2 0) a := fun a ha => by
      funext v
      unfold seg
      by_cases q : v < 8
      · rw [if_pos q, if_pos q]
        show mR (D2.2 0) (0 + (a + v)) = _
        unfold mR
        rw [Nat.zero_add, upd_ne _ _ (by omega), fb_put_out (by omega), fb_put_out (by omega)]
      · rw [if_neg q, if_neg q]
    have hbN : bOf (mN (S 0) M') (mDD D2) (fun j => mR (D2.2 0) (0 + j)) := by
      refine ⟨⟨⟨?_, ?_, ?_, ?_⟩, ?_⟩, ?_, fun z => ?_⟩
      · rw [n5]; exact m5
      · rw [n6, mr 1 (by omega)]; exact m6
      · rw [n7, mr 17 (by omega)]; exact m7
      · rw [n8]
        funext v
        unfold seg
        by_cases q : v < 8
        · rw [if_pos q]
          show mR (D2.2 0) (0 + (9 + v)) = _
          unfold mR
          rw [Nat.zero_add, upd_ne _ _ (by omega), fb_put_out (by omega), fb_put_in (by omega) (by omega)]
        · rw [if_neg q]
      · show mR (D2.2 0) (0 + 0) = _
        unfold mR
        rw [upd_ne _ _ (by omega), fb_put_out (by omega), fb_put_out (by omega)]
        exact m4
      · rfl
      · exact absurd (show (0 : Int32) = 1 from z) (by decide)
    have hI2 : INVn n' m' c' (P.1, 0, upd (upd P.2.2 0 0) 1 0) (va_up S1 16 (mDD D2)) := by
      obtain ⟨x, u, ⟨hx, hu⟩, ⟨e1, e2, e3⟩, hb⟩ := hI.2.1
      have v16 : va_up S1 16 (mDD D2) 16 = mDD D2 := vu_at _ _ _
      have vj : ∀ j, ¬ j = 16 → va_up S1 16 (mDD D2) j = S1 j := fun j q => vu_ne _ _ q
      refine ⟨⟨hd', ?_, ?_⟩, ⟨x, 0, ⟨hx, by omega⟩, ⟨e1, rfl, ?_⟩, fun i hi => by omega⟩, fun k hk => ?_, fun t ht => ?_, ?_, fun j hj => ?_⟩
      · rw [v16]; exact ⟨m1.trans hM'.1, m2.trans hM'.2.1, m3.trans hM'.2.2⟩
      · rw [v16, vj 0 (by omega), sj 0 (by omega) (by omega), u0]
        exact ⟨hwN, hbN⟩
      · rw [v16]; rfl
      · rw [v16]
        have hk2 : k = 0 ∨ k = 1 := by omega
        rcases hk2 with rfl | rfl
        · exact ⟨rfl, Or.inl rfl⟩
        · exact ⟨rfl, Or.inl rfl⟩
      · rw [v16, vj _ (by omega), st t ht]
        refine Or.inl ⟨rfl, rfl, ?_⟩
        show fb_put (D2.2 9) (fun _ => -1) 0 3 t = -1
        rw [fb_put_in (by omega) (by omega)]
      · unfold iX
        rw [v16, vj 12 (by omega), s12]
        refine ⟨⟨0, by omega, rfl, rfl, fun i hi => by omega⟩, fun i hi => ?_⟩
        show D2.2 17 i = _
        rw [t4 17 (by omega) (by omega) (by omega)]
        exact tD1.2.2 i hi
      · rw [vj j (by omega)]
        by_cases q12 : j = 0
        · rw [q12, sj 0 (by omega) (by omega), u0]; exact wf_tz hwN
        · rw [sj j (by omega) (by omega)]
          by_cases q1 : j = 1
          · rw [q1, u1]; exact tz
          · rw [uj j q12 q1 (by omega)]; exact hZ j hj
    exact both_at (x := nI K) ⟨n', m', c', hI2⟩ s16 hC hD
end MD
