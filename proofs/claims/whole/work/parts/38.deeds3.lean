/-! DEEDS OF BOTH: part, undo, keep, back, phase -/
section DG
variable {L : Nat} {xs : Nat → Int32} {P : st_P} {S : Nat → sg_S} {h : am_H} {n m c : Nat}
theorem both_part (hI : INVn n m c P S) {a b : Int32} : both L xs P S m_X4_part m_X5_part [.int a, .int b] := by
  have hd := hI.1.1
  have hw := hI.1.2.2.1
  have hM := hI.1.2.2.2.1
  have h8 := hd.1.2
  cases hv : isTwo n a b
  · refine both_same ⟨n, m, c, hI⟩ (x := -2) ?_ (fun h hc => ?_)
    · refine en_X4_part k_0 rfl rfl (ch_X4_part_0 ?_)
      simp only [f0_0, am_b_some]
      refine ⟨_, _, cPa hI, ?_⟩
      rw [if_pos (nI_no hv)]; (first | exact ⟨fit_i _, rfl, rfl⟩ | exact ⟨fit_i _, rfl, trivial⟩ | exact ⟨fit_i _, trivial, rfl⟩ | exact ⟨fit_i _, trivial, trivial⟩)
    · refine en_X5_part (cD hc) rfl rfl (ch_X5_part_0 ⟨_, _, dTw hI hc, ?_⟩)
      rw [if_pos (nI_no hv)]; (first | exact ⟨fit_i _, rfl, rfl⟩ | exact ⟨fit_i _, rfl, trivial⟩ | exact ⟨fit_i _, trivial, rfl⟩ | exact ⟨fit_i _, trivial, trivial⟩)
  · obtain ⟨u, v, ⟨hu, hvn, ne⟩, rfl, rfl⟩ := two_val h8 hv
    have hu8 : u < 8 := by omega
    have hv8 : v < 8 := by omega
    have j17 : (17 : Int32) + nI u = nI (0 + (17 + u)) := by rw [Nat.zero_add]; exact nI_add 17 u
    have j17v : (17 : Int32) + nI v = nI (0 + (17 + v)) := by rw [Nat.zero_add]; exact nI_add 17 v
    have b17 : (S 16).2 0 (0 + (17 + u)) = (S 0).2 7 u := by
      have := congrFun hM.1.2.2.1 u
      rw [seg_at _ _ hu8] at this
      exact this
    cases hh : bt ((S 0).2 7 u) v
    · refine both_same ⟨n, m, c, hI⟩ (x := -4) ?_ (fun h hc => ?_)
      · refine en_X4_part k_0 rfl rfl (ch_X4_part_0 ?_)
        simp only [f0_0, am_b_some]
        refine ⟨_, _, cPa hI, ?_⟩
        rw [if_neg (nI_yes hv)]
        simp only [f0_0, gN_7, lN_7 hu8, am_b_some]
        refine ⟨_, _, ok_has (by omega), ?_⟩
        rw [if_pos (nI_no hh)]; (first | exact ⟨fit_i _, rfl, rfl⟩ | exact ⟨fit_i _, rfl, trivial⟩ | exact ⟨fit_i _, trivial, rfl⟩ | exact ⟨fit_i _, trivial, trivial⟩)
      · refine en_X5_part (cD hc) rfl rfl (ch_X5_part_0 ⟨_, _, dTw hI hc, ?_⟩)
        rw [if_neg (nI_yes hv)]
        simp only [cD hc, gD_0 hc, gD_1 hc, gD_2 hc, gD_3 hc, gD_4 hc, gD_5 hc, gD_6 hc, gD_7 hc, gD_8 hc, gD_9 hc, gD_10 hc, gD_11 hc, gD_12 hc, gD_13 hc, gD_14 hc, gD_15 hc, gD_16 hc, gD_17 hc, gD_18 hc, gD_19 hc, pD_1 hc, pD_2 hc, pD_3 hc, pD_5 hc, pD_8 hc, pD_11 hc, pD_12 hc, pD_13 hc, pD_14 hc, pD_15 hc, am_b_some, j17, lD_0 hc (show 0 + (17 + u) < 372 by omega), b17]
        refine ⟨_, _, ok_hasD (by omega), ?_⟩
        rw [if_pos (nI_no hh)]; (first | exact ⟨fit_i _, rfl, rfl⟩ | exact ⟨fit_i _, rfl, trivial⟩ | exact ⟨fit_i _, trivial, rfl⟩ | exact ⟨fit_i _, trivial, trivial⟩)
    · obtain ⟨P1, S1, D1, hr, ⟨e0, e16⟩, hk, hn, hb, hN⟩ := deed (L := L) (xs := xs) hI
      have b17' : D1.2 0 (0 + (17 + u)) = (S 0).2 7 u := by
        have := congrFun hb.1.1.2.2.1 u
        rw [seg_at _ _ hu8] at this
        exact this
      have b17v : D1.2 0 (0 + (17 + v)) = (S 0).2 7 v := by
        have := congrFun hb.1.1.2.2.1 v
        rw [seg_at _ _ hv8] at this
        exact this
      have hB := bOf_setL (k' := upd (upd (fun j => D1.2 0 (0 + j)) (17 + u) ((S 0).2 7 u &&& ((1 : Int32) <<< (nI v &&& 31) ^^^ (-1)))) (17 + v) ((S 0).2 7 v &&& ((1 : Int32) <<< (nI u &&& 31) ^^^ (-1)))) (K := CK ((S 0).2 7) u v) hb (by rw [upd_ne _ _ (by omega), upd_ne _ _ (by omega)]) (by rw [seg_ne _ _ _ _ (by omega), seg_ne _ _ _ _ (by omega)]) (by rw [seg_ne _ _ _ _ (by omega), seg_ne _ _ _ _ (by omega)]) (by rw [seg_upd _ _ hv8, seg_upd _ _ hu8, hb.1.1.2.2.1]; unfold CK; rw [upd_ne ((S 0).2 7) _ (fun z => ne z.symm)]) (by rw [upd_ne _ _ (by omega), upd_ne _ _ (by omega)]) (fun p hp => by rw [upd_ne _ _ (by omega), upd_ne _ _ (by omega)])
      have hw2 := wf_setL hw (wf_CK h8 hu hvn ne hw.2.2.2.2.2.1)
      have I2 := hN (setL (S 0) (CK ((S 0).2 7) u v)) _ (D1.2 18) hw2 hB
      rw [vu_id] at I2
      refine both_of (x := nI (clN (CK ((S 0).2 7) u v) ((S 0).2 8) n (((1 : Int32) <<< (nI m &&& 31)) - 1))) ⟨n, m, c, I2⟩ ((vu_ne _ _ (by omega)).trans e16) ?_ (fun h hc => ?_)
      · refine en_X4_part k_0 HP_12 HP_22 (ch_X4_part_0 ?_)
        simp only [f0_0, am_b_some]
        refine ⟨_, _, cPa hI, ?_⟩
        rw [if_neg (nI_yes hv)]
        simp only [f0_0, gN_7, lN_7 hu8, am_b_some]
        refine ⟨_, _, ok_has (by omega), ?_⟩
        rw [if_neg (nI_yes hh)]
        simp only [f0_0, f0_3, am_b_some]
        refine ⟨_, hr, ?_⟩
        simp only [f0_0, am_b_some]
        have call := onN (P := P1) (S := S1) (ok_cut (L := L) (xs := xs) bN hu8 hv8)
        rw [e0] at call
        refine ⟨_, call, ?_⟩
        simp only [f0_0, am_b_some]
        have call2 := onN0 (L := L) (xs := xs) (P := P1) (S := va_up S1 0 (setL (S 0) (CK ((S 0).2 7) u v))) (ok_clashes (n := n) (m := m) bN (by rw [vu_at]; exact hw.1.1) h8 (by rw [vu_at]; exact hw.1.2.1) (by rw [vu_at]; exact fun _ hv => wfH_sm hw.2.2.2.2.2.2 hd.2.1.2 hv))
        rw [vu_at] at call2
        refine ⟨_, _, call2, ?_⟩
        first | exact ⟨fit_i _, rfl, rfl⟩ | exact ⟨fit_i _, rfl, trivial⟩
      · refine en_X5_part (cD hc) rfl rfl (ch_X5_part_0 ⟨_, _, dTw hI hc, ?_⟩)
        rw [if_neg (nI_yes hv)]
        simp only [cD hc, gD_0 hc, gD_1 hc, gD_2 hc, gD_3 hc, gD_4 hc, gD_5 hc, gD_6 hc, gD_7 hc, gD_8 hc, gD_9 hc, gD_10 hc, gD_11 hc, gD_12 hc, gD_13 hc, gD_14 hc, gD_15 hc, gD_16 hc, gD_17 hc, gD_18 hc, gD_19 hc, pD_1 hc, pD_2 hc, pD_3 hc, pD_5 hc, pD_8 hc, pD_11 hc, pD_12 hc, pD_13 hc, pD_14 hc, pD_15 hc, am_b_some, j17, lD_0 hc (show 0 + (17 + u) < 372 by omega), b17]
        refine ⟨_, _, ok_hasD (by omega), ?_⟩
        rw [if_neg (nI_yes hh)]
        refine ⟨_, hk h hc, ?_⟩
        have eD := (dB_id D1 0).symm
        rw [eD]
        have lu : ∀ (D : sg_S) (k : Nat → Int32), am_lI (ob sgD h 98 (dB D 0 k)) .int (98 + 1) (nI (0 + (17 + u))) = some (k (17 + u)) := fun D k => lB (B := 0) (j := 17 + u) hc (by omega) (by omega)
        have su : ∀ (D : sg_S) (k : Nat → Int32) (x : Int32), am_sI (ob sgD h 98 (dB D 0 k)) .int (98 + 1) (nI (0 + (17 + u))) x = some (ob sgD h 98 (dB D 0 (upd k (17 + u) x))) := fun D k x => sB (B := 0) (j := 17 + u) hc (by omega) (by omega)
        have lv : ∀ (D : sg_S) (k : Nat → Int32), am_lI (ob sgD h 98 (dB D 0 k)) .int (98 + 1) (nI (0 + (17 + v))) = some (k (17 + v)) := fun D k => lB (B := 0) (j := 17 + v) hc (by omega) (by omega)
        have sv : ∀ (D : sg_S) (k : Nat → Int32) (x : Int32), am_sI (ob sgD h 98 (dB D 0 k)) .int (98 + 1) (nI (0 + (17 + v))) x = some (ob sgD h 98 (dB D 0 (upd k (17 + v) x))) := fun D k x => sB (B := 0) (j := 17 + v) hc (by omega) (by omega)
        simp only [cD hc, gD_0 hc, gD_1 hc, gD_2 hc, gD_3 hc, gD_4 hc, gD_5 hc, gD_6 hc, gD_7 hc, gD_8 hc, gD_9 hc, gD_10 hc, gD_11 hc, gD_12 hc, gD_13 hc, gD_14 hc, gD_15 hc, gD_16 hc, gD_17 hc, gD_18 hc, gD_19 hc, pD_1 hc, pD_2 hc, pD_3 hc, pD_5 hc, pD_8 hc, pD_11 hc, pD_12 hc, pD_13 hc, pD_14 hc, pD_15 hc, am_b_some, lu, su, lv, sv, b17', b17v, j17v, upd_ne _ _ (show ¬ 17 + v = 17 + u by omega)]
        refine ⟨_, _, ok_clashesD (B := 0) hc (by omega) hn.1 hn.2.1 h8 hd.2.1.2, ?_⟩
        rw [hB.1.1.2.2.1, hB.1.1.2.2.2]
        have ec : clN (CK ((S 0).2 7) u v) ((S 0).2 8) n (((1 : Int32) <<< (nI m &&& 31)) - 1) = fb_sm (fun s => cdN (CK ((S 0).2 7) u v) ((S 0).2 8) n s / 2) m := clash_all hw2.2.2.2.2.2.1 h8 (by have := hd.2.1.2; omega)
        rw [ec]
        refine ⟨fit_i _, rfl, ?_⟩
        rw [← eD]
/-- fewer to undo -/
theorem INV_less (hI : INVn n m c P S) {x u x' u' : Nat} (hx : x' < 8) (hu : u' ≤ u) (hu8 : u ≤ 8) (hb : ∀ i, i < u → iM n m c (S (2 + (x + 8 - u + i) % 8)) (S 16) (fun j => (S 16).2 0 (31 + 31 * i + j))) (he : ∀ i, i < u' → (x' + 8 - u' + i) % 8 = (x + 8 - u + i) % 8) : INVn n m c (nI x', nI u', P.2.2) (va_up S 16 (upd (S 16).1 5 (nI u'), (S 16).2)) := by
  obtain ⟨⟨a1, a2, a3⟩, hP, hK, hT, hX, hZ⟩ := hI
  have e16 : va_up S 16 (upd (S 16).1 5 (nI u'), (S 16).2) 16 = (upd (S 16).1 5 (nI u'), (S 16).2) := vu_at _ _ _
  have ej : ∀ j, ¬ j = 16 → va_up S 16 (upd (S 16).1 5 (nI u'), (S 16).2) j = S j := fun j q1 => vu_ne _ _ q1
  refine ⟨⟨a1, ?_, ?_⟩, ⟨x', u', ⟨hx, by omega⟩, ⟨rfl, rfl, ?_⟩, fun i hi => ?_⟩, fun k hk => ?_, fun s hs => ?_, ?_, fun j hj => ?_⟩
  · rw [e16]; exact a2
  · rw [e16, ej 0 (by omega)]; exact a3
  · rw [e16]; rfl
  · rw [e16, ej _ (by omega), he i hi]; exact hb i (by omega)
  · rw [e16, ej _ (by omega)]; exact hK k hk
  · rw [e16, ej _ (by omega)]; exact hT s hs
  · unfold iX
    rw [e16, ej 12 (by omega)]; exact hX
  · rw [ej j (by omega)]; exact hZ j hj
theorem INV_back (hI : INVn n m c P S) {M X : sg_S} {k : Nat → Int32} {P' : st_P} (h1 : INVn n m c P' (va_up S 16 X)) (hw : wfS M n m c) (hb : bOf M X k) : INVn n m c P' (va_up (va_up S 0 M) 16 (dB X 0 k)) := by
  have := INV_now h1 (M := M) (k := k) (g := X.2 18) hw (by rw [vu_at]; exact hb)
  rw [vu_at, vu_id] at this
  have sw : ∀ (A : Nat → sg_S) (X Y : sg_S), va_up (va_up (va_up A 16 X) 0 M) 16 Y = va_up (va_up A 0 M) 16 Y := by
    intro A X Y
    funext i
    unfold va_up
    by_cases q : i = 16
    · simp [q]
    · by_cases q2 : i = 0
      · simp [q2]
      · simp [q, q2]
  rw [sw] at this
  exact this
theorem both_undo (hI : INVn n m c P S) : both L xs P S m_X4_undo m_X5_undo [] := by
  obtain ⟨x, u, ⟨hx, hu⟩, ⟨e1, e2, e3⟩, hb⟩ := hI.2.1
  cases u with
  | zero =>
    refine both_same ⟨n, m, c, hI⟩ (x := -4) ?_ (fun h hc => ?_)
    · refine en_X4_undo k_0 rfl rfl (ch_X4_undo_0 ?_)
      simp only [f0_3, am_b_some]
      refine ⟨_, _, ok_size, ?_⟩
      rw [if_pos (show P.2.1 = 0 from e2)]
      exact ⟨fit_i _, by first | rfl | trivial, rfl⟩
    · refine en_X5_undo (cD hc) rfl rfl (ch_X5_undo_0 ?_)
      simp only [cD hc, gD_0 hc, gD_1 hc, gD_2 hc, gD_3 hc, gD_4 hc, gD_5 hc, gD_6 hc, gD_7 hc, gD_8 hc, gD_9 hc, gD_10 hc, gD_11 hc, gD_12 hc, gD_13 hc, gD_14 hc, gD_15 hc, gD_16 hc, gD_17 hc, gD_18 hc, gD_19 hc, pD_1 hc, pD_2 hc, pD_3 hc, pD_5 hc, pD_8 hc, pD_11 hc, pD_12 hc, pD_13 hc, pD_14 hc, pD_15 hc, am_b_some, e3]
      rw [if_pos (show nI 0 = 0 from rfl)]; (first | exact ⟨fit_i _, rfl, rfl⟩ | exact ⟨fit_i _, rfl, trivial⟩ | exact ⟨fit_i _, trivial, rfl⟩ | exact ⟨fit_i _, trivial, trivial⟩)
  | succ u =>
    have hn0 : ¬ nI (u + 1) = 0 := nI_ne0 (by omega) (by omega)
    have ei : (x + 8 - (u + 1) + u) % 8 = (x + 7) % 8 := by omega
    have hiM := hb u (by omega)
    rw [ei] at hiM
    have I1 := INV_less hI (x := x) (u := u + 1) (x' := (x + 7) % 8) (u' := u) (by omega) (by omega) hu hb (fun i hi => by omega)
    have hZ := hI.2.2.2.2.2
    have I2 := INV_back hI (M := cpyM (S 0) (S (2 + (x + 7) % 8))) (k := fun j => (S 16).2 0 (31 + 31 * u + j)) I1 (cpy_wf (hZ _ (by omega)) (hZ _ (by omega)) hiM.1) (bOf_cong (D := S 16) rfl (fun _ _ => rfl) (cpy_bOf (hZ _ (by omega)) (hZ _ (by omega)) hiM.2))
    refine both_of (x := nI u) ⟨n, m, c, I2⟩ (vu_ne _ _ (by omega)) ?_ (fun h hc => ?_)
    · refine en_X4_undo k_0 HP_12 HP_22 (ch_X4_undo_0 ?_)
      simp only [f0_3, am_b_some]
      refine ⟨_, _, ok_size, ?_⟩
      rw [e2, if_neg hn0]
      simp only [f0_3, f0_0, am_b_some]
      refine ⟨_, ok_recall hx hu (by omega) e1 e2 hiM.1.2.2.1, ?_⟩
      simp only [f0_3, am_b_some]
      refine ⟨_, _, ok_size, ?_⟩
      first | exact ⟨fit_i _, rfl, rfl⟩ | exact ⟨fit_i _, rfl, trivial⟩
    · refine en_X5_undo (cD hc) rfl rfl (ch_X5_undo_0 ?_)
      simp only [cD hc, gD_0 hc, gD_1 hc, gD_2 hc, gD_3 hc, gD_4 hc, gD_5 hc, gD_6 hc, gD_7 hc, gD_8 hc, gD_9 hc, gD_10 hc, gD_11 hc, gD_12 hc, gD_13 hc, gD_14 hc, gD_15 hc, gD_16 hc, gD_17 hc, gD_18 hc, gD_19 hc, pD_1 hc, pD_2 hc, pD_3 hc, pD_5 hc, pD_8 hc, pD_11 hc, pD_12 hc, pD_13 hc, pD_14 hc, pD_15 hc, am_b_some, e3]
      rw [if_neg hn0]
      have e31 : (31 : Int32) + 31 * nI u = nI (31 + 31 * u) := by
        rw [show (31 : Int32) * nI u = nI (31 * u) from pk_mul 31 u]
        exact nI_add 31 (31 * u)
      simp only [cD hc, gD_0 hc, gD_1 hc, gD_2 hc, gD_3 hc, gD_4 hc, gD_5 hc, gD_6 hc, gD_7 hc, gD_8 hc, gD_9 hc, gD_10 hc, gD_11 hc, gD_12 hc, gD_13 hc, gD_14 hc, gD_15 hc, gD_16 hc, gD_17 hc, gD_18 hc, gD_19 hc, pD_1 hc, pD_2 hc, pD_3 hc, pD_5 hc, pD_8 hc, pD_11 hc, pD_12 hc, pD_13 hc, pD_14 hc, pD_15 hc, am_b_some, e3, nI_m1, upd_at, e31]
      refine ⟨_, ok_copyRow (D := (upd (S 16).1 5 (nI u), (S 16).2)) (A := 31 + 31 * u) (B := 0) hc (by omega) (by omega) (by omega), ?_⟩
      simp only [cD hc, gD_0 hc, gD_1 hc, gD_2 hc, gD_3 hc, gD_4 hc, gD_5 hc, gD_6 hc, gD_7 hc, gD_8 hc, gD_9 hc, gD_10 hc, gD_11 hc, gD_12 hc, gD_13 hc, gD_14 hc, gD_15 hc, gD_16 hc, gD_17 hc, gD_18 hc, gD_19 hc, pD_1 hc, pD_2 hc, pD_3 hc, pD_5 hc, pD_8 hc, pD_11 hc, pD_12 hc, pD_13 hc, pD_14 hc, pD_15 hc, am_b_some, dB_1, upd_at]
      first | exact ⟨fit_i _, rfl, rfl⟩ | exact ⟨fit_i _, trivial, rfl⟩ | exact ⟨fit_i _, trivial, trivial⟩
theorem not_in2 {b : Int32} (hb : isIn 2 b = false) : b < 0 ∨ (¬ b < 0 ∧ ¬ b < 2) := by
  unfold isIn at hb
  have := of_decide_eq_false hb
  by_cases q : b < 0
  · exact Or.inl q
  · exact Or.inr ⟨q, fun z => this ⟨q, z⟩⟩
theorem cCov (hd : dims n m c) {S : Nat → sg_S} {P : st_P} (hw : wfS (S 0) n m c) : am_ok L xs m_X0_covered [.ref 1] (HP P S) (some (covered ((S 0).2 5) ((S 0).2 8) n)) (HP P S) := onN0 (ok_covered bN hw.1.1 hd.1.2 (fun _ hv => wfH_sm hw.2.2.2.2.2.2 hd.2.1.2 hv))
theorem both_keep (hI : INVn n m c P S) {a : Int32} : both L xs P S m_X4_keep m_X5_keep [.int a] := by
  have hd := hI.1.1
  have hw := hI.1.2.2.1
  have hM := hI.1.2.2.2.1
  have h8 := hd.1.2
  cases hv : isIn 2 a
  · refine both_same ⟨n, m, c, hI⟩ (x := -2) ?_ (fun h hc => ?_)
    · refine en_X4_keep k_0 rfl rfl (ch_X4_keep_0 ?_)
      rcases not_in2 hv with q | ⟨q1, q2⟩
      · rw [if_pos q]; (first | exact ⟨fit_i _, rfl, rfl⟩ | exact ⟨fit_i _, rfl, trivial⟩ | exact ⟨fit_i _, trivial, rfl⟩ | exact ⟨fit_i _, trivial, trivial⟩)
      · rw [if_neg q1, if_neg q2]; (first | exact ⟨fit_i _, rfl, rfl⟩ | exact ⟨fit_i _, rfl, trivial⟩ | exact ⟨fit_i _, trivial, rfl⟩ | exact ⟨fit_i _, trivial, trivial⟩)
    · refine en_X5_keep (cD hc) rfl rfl (ch_X5_keep_0 ⟨_, _, ok_in, ?_⟩)
      rw [in2, if_pos (nI_no hv)]; (first | exact ⟨fit_i _, rfl, rfl⟩ | exact ⟨fit_i _, rfl, trivial⟩ | exact ⟨fit_i _, trivial, rfl⟩ | exact ⟨fit_i _, trivial, trivial⟩)
  · obtain ⟨k, hk, rfl⟩ := isIn_val (by omega) hv
    have e279 : (279 : Int32) + 31 * nI k = nI (279 + 31 * k) := by
      rw [show (31 : Int32) * nI k = nI (31 * k) from pk_mul 31 k]
      exact nI_add 279 (31 * k)
    have I2 : INVn n m c (P.1, P.2.1, upd P.2.2 k 1) (va_up (va_up S (10 + k) (cpyM (S (10 + k)) (S 0))) 16 ((S 16).1, va_up (dB (S 16) (279 + 31 * k) (fun j => (S 16).2 0 (0 + j))).2 6 (upd ((S 16).2 6) k 1))) := by
      obtain ⟨⟨a1, a2, a3⟩, ⟨x, u, b1, b2, b3⟩, hK, hT, hX, hZ⟩ := hI
      generalize hC : cpyM (S (10 + k)) (S 0) = C
      have hCi : ∀ {D : sg_S} {k : Nat → Int32}, iM n m c (S 0) D k → iM n m c C D k := fun z => by rw [← hC]; exact cpy_iM (hZ _ (by omega)) (hZ _ (by omega)) z
      generalize hD : ((S 16).1, va_up (dB (S 16) (279 + 31 * k) (fun j => (S 16).2 0 (0 + j))).2 6 (upd ((S 16).2 6) k 1)) = D'
      have d1 : D'.1 = (S 16).1 := by rw [← hD]
      have d0 : D'.2 0 = fb_put ((S 16).2 0) (fun j => (S 16).2 0 (0 + j)) (279 + 31 * k) 31 := by rw [← hD]; rfl
      have d6 : D'.2 6 = upd ((S 16).2 6) k 1 := by rw [← hD]; rfl
      have dj : ∀ j, ¬ j = 0 → ¬ j = 6 → D'.2 j = (S 16).2 j := fun j q1 q2 => by
        rw [← hD]
        show va_up (va_up (S 16).2 0 _) 6 _ j = _
        rw [vu_ne _ _ q2, vu_ne _ _ q1]
      have dlow : ∀ j, j < 279 → D'.2 0 j = (S 16).2 0 j := fun j hj => by rw [d0, fb_put_out (by omega)]
      have e16 : va_up (va_up S (10 + k) C) 16 D' 16 = D' := vu_at _ _ _
      have ek : va_up (va_up S (10 + k) C) 16 D' (10 + k) = C := by rw [vu_ne _ _ (by omega), vu_at]
      have ej : ∀ j, ¬ j = 16 → ¬ j = 10 + k → va_up (va_up S (10 + k) C) 16 D' j = S j := fun j q1 q2 => by rw [vu_ne _ _ q1, vu_ne _ _ q2]
      refine ⟨⟨a1, ?_, ?_⟩, ⟨x, u, b1, ?_, fun i hi => ?_⟩, fun q hq => ?_, fun s hs => ?_, ?_, fun j hj => ?_⟩
      · rw [e16, d1]; exact a2
      · rw [e16, ej 0 (by omega) (by omega)]
        exact iM_cong (dj 4 (by omega) (by omega)) (fun j hj => dlow _ (by omega)) a3
      · rw [e16, d1]; exact b2
      · rw [e16, ej _ (by omega) (by omega)]
        exact iM_cong (dj 4 (by omega) (by omega)) (fun j hj => dlow _ (by omega)) (b3 i hi)
      · rw [e16, d6]
        by_cases q2 : q = k
        · subst q2
          show upd ((S 16).2 6) q 1 q = upd P.2.2 q 1 q ∧ _
          rw [upd_at, upd_at, ek]
          refine ⟨rfl, Or.inr ⟨upd_at _ _ _, iM_cong (dj 4 (by omega) (by omega)) (fun j hj => ?_) (hCi a3)⟩⟩
          rw [d0, fb_put_in (by omega) (by omega), show 0 + (279 + 31 * q + j - (279 + 31 * q)) = 0 + j by omega]
        · show upd ((S 16).2 6) k 1 q = upd P.2.2 k 1 q ∧ (upd P.2.2 k 1 q = 0 ∨ (upd P.2.2 k 1 q = 1 ∧ _))
          rw [upd_ne _ _ q2, upd_ne _ _ q2, ej _ (by omega) (by omega)]
          refine ⟨(hK q hq).1, ?_⟩
          rcases (hK q hq).2 with z | ⟨z1, z2⟩
          · exact Or.inl z
          · refine Or.inr ⟨z1, iM_cong (dj 4 (by omega) (by omega)) (fun j hj => ?_) z2⟩
            rw [d0, fb_put_out (by omega)]
      · rw [e16, ej _ (by omega) (by omega)]
        unfold okT
        rw [dj 9 (by omega) (by omega), dj 10 (by omega) (by omega)]
        exact hT s hs
      · unfold iX
        rw [e16, ej 12 (by omega) (by omega), d1, dj 7 (by omega) (by omega), dj 17 (by omega) (by omega)]
        exact hX
      · by_cases q : j = 10 + k
        · rw [q, ek, ← hC]; exact cpy_tz (hZ _ (by omega)) (hZ _ (by omega))
        · rw [ej j (by omega) q]; exact hZ j hj
    refine both_of (x := nI (pop (covered ((S 0).2 5) ((S 0).2 8) n))) ⟨n, m, c, I2⟩ (vu_ne _ _ (by omega)) ?_ (fun h hc => ?_)
    · refine en_X4_keep k_0 HP_12 HP_22 (ch_X4_keep_0 ?_)
      rw [if_neg (show ¬ nI k < 0 from nI_nlt (a := k) (b := 0) (by omega) (by omega)), if_pos (show nI k < 2 from nI_lt (b := 2) hk (by omega))]
      simp only [f0_4, a75 hk, f0_0, am_b_some]
      refine ⟨_, cpy (jb := 10 + k) (jc := 0) (78 + 7 * k) 1 (fun S N => foK hk) (fun S N => foN) (by omega) (by omega) (by omega) hw.2.2.1, ?_⟩
      simp only [f0_5, s76 hk, f0_0, am_b_some]
      refine ⟨Or.inr trivial, _, _, cCov hd (n := n) (m := m) (c := c) (by rw [vu_ne _ _ (by omega)]; exact hw), _, _, ok_bitCount (sm_bs h8), ?_⟩
      rw [vu_ne _ _ (show ¬ 0 = 10 + k by omega)]
      first | exact ⟨fit_i _, rfl, rfl⟩ | exact ⟨fit_i _, rfl, trivial⟩
    · refine en_X5_keep (cD hc) rfl rfl (ch_X5_keep_0 ⟨_, _, ok_in, ?_⟩)
      rw [in2, if_neg (nI_yes hv), e279]
      refine ⟨_, ok_copyRow (A := 0) (B := 279 + 31 * k) hc (by omega) (by omega) (by omega), ?_⟩
      simp only [cD hc, gD_0 hc, gD_1 hc, gD_2 hc, gD_3 hc, gD_4 hc, gD_5 hc, gD_6 hc, gD_7 hc, gD_8 hc, gD_9 hc, gD_10 hc, gD_11 hc, gD_12 hc, gD_13 hc, gD_14 hc, gD_15 hc, gD_16 hc, gD_17 hc, gD_18 hc, gD_19 hc, pD_1 hc, pD_2 hc, pD_3 hc, pD_5 hc, pD_8 hc, pD_11 hc, pD_12 hc, pD_13 hc, pD_14 hc, pD_15 hc, am_b_some, sD_6 hc hk]
      refine ⟨Or.inr trivial, ?_⟩
      have e6 : (dB (S 16) (279 + 31 * k) (fun j => (S 16).2 0 (0 + j))).2 6 = (S 16).2 6 := rfl
      rw [e6, dB_1]
      generalize hD : ((S 16).1, va_up (dB (S 16) (279 + 31 * k) (fun j => (S 16).2 0 (0 + j))).2 6 (upd ((S 16).2 6) k 1)) = D'
      have d1 : D'.1 1 = nI n := by rw [← hD]; exact hI.1.2.1.1
      have dM : bOf (S 0) D' (fun j => D'.2 0 (0 + j)) := by
        refine bOf_cong (D := S 16) (by rw [← hD]; rfl) (fun j hj => ?_) hI.1.2.2.2
        rw [← hD]
        show fb_put ((S 16).2 0) (fun j => (S 16).2 0 (0 + j)) (279 + 31 * k) 31 (0 + j) = _
        rw [fb_put_out (by omega)]
      refine ⟨_, _, onB0 (ok_coveredD (B := 0) hc (by omega) d1 h8), _, _, ok_ones, ?_⟩
      rw [dM.1.1.1, dM.1.1.2.2.2]
      first | exact ⟨fit_i _, rfl, rfl⟩ | exact ⟨fit_i _, rfl, trivial⟩
theorem both_back (hI : INVn n m c P S) {a : Int32} : both L xs P S m_X4_back m_X5_back [.int a] := by
  have hd := hI.1.1
  have hw := hI.1.2.2.1
  have h8 := hd.1.2
  cases hv : isIn 2 a
  · refine both_same ⟨n, m, c, hI⟩ (x := -2) ?_ (fun h hc => ?_)
    · refine en_X4_back k_0 rfl rfl (ch_X4_back_0 ?_)
      rcases not_in2 hv with q | ⟨q1, q2⟩
      · rw [if_pos q]; (first | exact ⟨fit_i _, rfl, rfl⟩ | exact ⟨fit_i _, rfl, trivial⟩ | exact ⟨fit_i _, trivial, rfl⟩ | exact ⟨fit_i _, trivial, trivial⟩)
      · rw [if_neg q1, if_neg q2]; (first | exact ⟨fit_i _, rfl, rfl⟩ | exact ⟨fit_i _, rfl, trivial⟩ | exact ⟨fit_i _, trivial, rfl⟩ | exact ⟨fit_i _, trivial, trivial⟩)
    · refine en_X5_back (cD hc) rfl rfl (ch_X5_back_0 ⟨_, _, ok_in, ?_⟩)
      rw [in2, if_pos (nI_no hv)]; (first | exact ⟨fit_i _, rfl, rfl⟩ | exact ⟨fit_i _, rfl, trivial⟩ | exact ⟨fit_i _, trivial, rfl⟩ | exact ⟨fit_i _, trivial, trivial⟩)
  · obtain ⟨k, hk, rfl⟩ := isIn_val (by omega) hv
    have e279 : (279 : Int32) + 31 * nI k = nI (279 + 31 * k) := by
      rw [show (31 : Int32) * nI k = nI (31 * k) from pk_mul 31 k]
      exact nI_add 279 (31 * k)
    obtain ⟨hk1, hk2⟩ := hI.2.2.1 k hk
    have q1 : ¬ nI k < 0 := nI_nlt (a := k) (b := 0) (by omega) (by omega)
    have q2 : nI k < 2 := nI_lt (b := 2) hk (by omega)
    rcases hk2 with hz | ⟨hz, hiM⟩
    · refine both_same ⟨n, m, c, hI⟩ (x := -4) ?_ (fun h hc => ?_)
      · refine en_X4_back k_0 rfl rfl (ch_X4_back_0 ?_)
        rw [if_neg q1, if_pos q2]
        simp only [f0_5, l76 hk, am_b_some]
        rw [if_pos hz]; (first | exact ⟨fit_i _, rfl, rfl⟩ | exact ⟨fit_i _, rfl, trivial⟩ | exact ⟨fit_i _, trivial, rfl⟩ | exact ⟨fit_i _, trivial, trivial⟩)
      · refine en_X5_back (cD hc) rfl rfl (ch_X5_back_0 ⟨_, _, ok_in, ?_⟩)
        rw [in2, if_neg (nI_yes hv)]
        simp only [cD hc, gD_0 hc, gD_1 hc, gD_2 hc, gD_3 hc, gD_4 hc, gD_5 hc, gD_6 hc, gD_7 hc, gD_8 hc, gD_9 hc, gD_10 hc, gD_11 hc, gD_12 hc, gD_13 hc, gD_14 hc, gD_15 hc, gD_16 hc, gD_17 hc, gD_18 hc, gD_19 hc, pD_1 hc, pD_2 hc, pD_3 hc, pD_5 hc, pD_8 hc, pD_11 hc, pD_12 hc, pD_13 hc, pD_14 hc, pD_15 hc, am_b_some, lD_6 hc hk, hk1]
        rw [if_pos hz]; (first | exact ⟨fit_i _, rfl, rfl⟩ | exact ⟨fit_i _, rfl, trivial⟩ | exact ⟨fit_i _, trivial, rfl⟩ | exact ⟨fit_i _, trivial, trivial⟩)
    · have hne : ¬ P.2.2 k = 0 := by rw [hz]; decide +kernel
      have hZ := hI.2.2.2.2.2
      obtain ⟨x, u, ⟨hx, hu⟩, ⟨e1, e2, e3⟩, hb⟩ := hI.2.1
      have I1 := INV_less hI (x := x) (u := u) (x' := x) (u' := 0) hx (by omega) hu hb (fun i hi => by omega)
      have hw2 := cpy_wf (M := S 0) (hZ 0 (by omega)) (hZ (10 + k) (by omega)) hiM.1
      have hb2 : bOf (cpyM (S 0) (S (10 + k))) (upd (S 16).1 5 (nI 0), (S 16).2) (fun j => (S 16).2 0 (279 + 31 * k + j)) := bOf_cong (D := S 16) rfl (fun _ _ => rfl) (cpy_bOf (hZ _ (by omega)) (hZ _ (by omega)) hiM.2)
      have I2 := INV_back hI (M := cpyM (S 0) (S (10 + k))) (k := fun j => (S 16).2 0 (279 + 31 * k + j)) I1 hw2 hb2
      rw [← e1] at I2
      generalize hC : cpyM (S 0) (S (10 + k)) = C at hw2 hb2 I2
      refine both_of (x := nI (pop (covered (C.2 5) (C.2 8) n))) ⟨n, m, c, I2⟩ (vu_ne _ _ (by omega)) ?_ (fun h hc => ?_)
      · refine en_X4_back k_0 HP_12 HP_22 (ch_X4_back_0 ?_)
        rw [if_neg q1, if_pos q2]
        simp only [f0_5, l76 hk, am_b_some]
        rw [if_neg hne]
        simp only [f0_4, a75 hk, f0_0, am_b_some]
        refine ⟨_, cpy (jb := 0) (jc := 10 + k) 1 (78 + 7 * k) (fun S N => foN) (fun S N => foK hk) (by omega) (by omega) (by omega) hiM.1.2.2.1, ?_⟩
        rw [hC]
        simp only [f0_3, am_b_some]
        refine ⟨_, ok_forget, ?_⟩
        simp only [f0_0, am_b_some]
        refine ⟨_, _, cCov hd (n := n) (m := m) (c := c) (by rw [vu_at]; exact hw2), _, _, ok_bitCount (sm_bs h8), ?_⟩
        rw [vu_at]
        first | exact ⟨fit_i _, rfl, rfl⟩ | exact ⟨fit_i _, rfl, trivial⟩
      · refine en_X5_back (cD hc) rfl rfl (ch_X5_back_0 ⟨_, _, ok_in, ?_⟩)
        rw [in2, if_neg (nI_yes hv)]
        simp only [cD hc, gD_0 hc, gD_1 hc, gD_2 hc, gD_3 hc, gD_4 hc, gD_5 hc, gD_6 hc, gD_7 hc, gD_8 hc, gD_9 hc, gD_10 hc, gD_11 hc, gD_12 hc, gD_13 hc, gD_14 hc, gD_15 hc, gD_16 hc, gD_17 hc, gD_18 hc, gD_19 hc, pD_1 hc, pD_2 hc, pD_3 hc, pD_5 hc, pD_8 hc, pD_11 hc, pD_12 hc, pD_13 hc, pD_14 hc, pD_15 hc, am_b_some, lD_6 hc hk, hk1]
        rw [if_neg hne, e279]
        refine ⟨_, ok_copyRow (A := 279 + 31 * k) (B := 0) hc (by omega) (by omega) (by omega), ?_⟩
        simp only [pfD5 hc, am_b_some]
        refine ⟨_, _, ok_coveredD (B := 0) (D := (upd (S 16).1 5 0, (S 16).2)) hc (by omega) hI.1.2.1.1 h8, _, _, ok_ones, ?_⟩
        rw [hb2.1.1.2.2.2]
        have e5 : (S 16).2 4 = C.2 5 := hb2.1.1.1
        refine ⟨fit_i _, ?_, rfl⟩
        show some (nI (pop (covered ((S 16).2 4) (C.2 8) n))) = _
        rw [e5]
theorem in5 (a : Int32) : decide (¬ a < 0 ∧ ¬ (4 : Int32) < a) = isIn 5 a := in_eq (n := 5) (by omega) (by omega) a
theorem not_in5 {b : Int32} (hb : isIn 5 b = false) : b < 0 ∨ (¬ b < 0 ∧ ¬ b < 5) := by
  unfold isIn at hb
  have := of_decide_eq_false hb
  by_cases q : b < 0
  · exact Or.inl q
  · exact Or.inr ⟨q, fun z => this ⟨q, z⟩⟩
theorem both_phase (hI : INVn n m c P S) {a : Int32} : both L xs P S m_X4_phase m_X5_phase [.int a] := by
  have hw := hI.1.2.2.1
  have hb := hI.1.2.2.2
  cases hv : isIn 5 a
  · refine both_same ⟨n, m, c, hI⟩ (x := -3) ?_ (fun h hc => ?_)
    · refine en_X4_phase k_0 rfl rfl (ch_X4_phase_0 ?_)
      rcases not_in5 hv with q | ⟨q1, q2⟩
      · rw [if_pos q]; (first | exact ⟨fit_i _, rfl, rfl⟩ | exact ⟨fit_i _, rfl, trivial⟩ | exact ⟨fit_i _, trivial, rfl⟩ | exact ⟨fit_i _, trivial, trivial⟩)
      · rw [if_neg q1, if_neg q2]; (first | exact ⟨fit_i _, rfl, rfl⟩ | exact ⟨fit_i _, rfl, trivial⟩ | exact ⟨fit_i _, trivial, rfl⟩ | exact ⟨fit_i _, trivial, trivial⟩)
    · refine en_X5_phase (cD hc) rfl rfl (ch_X5_phase_0 ⟨_, _, ok_in, ?_⟩)
      rw [in5, if_pos (nI_no hv)]; (first | exact ⟨fit_i _, rfl, rfl⟩ | exact ⟨fit_i _, rfl, trivial⟩ | exact ⟨fit_i _, trivial, rfl⟩ | exact ⟨fit_i _, trivial, trivial⟩)
  · obtain ⟨p, hp, rfl⟩ := isIn_val (by omega) hv
    have q1 : ¬ nI p < 0 := nI_nlt (a := p) (b := 0) (by omega) (by omega)
    have q2 : nI p < 5 := nI_lt (b := 5) hp (by omega)
    have l30 : ∀ (h : am_H), 98 + 10 < h.1 → am_lI (ob sgD h 98 (S 16)) .int (98 + 1) 30 = some ((S 16).2 0 30) := fun h hc => lD_0 (i := 30) hc (by omega)
    have e30 : (S 16).2 0 30 = (S 0).1 4 := hb.2.1
    have j25 : (25 : Int32) + nI p = nI (25 + p) := nI_add 25 p
    rcases hw.2.2.1 with hz | hz
    · refine both_same ⟨n, m, c, hI⟩ (x := -4) ?_ (fun h hc => ?_)
      · refine en_X4_phase k_0 rfl rfl (ch_X4_phase_0 ?_)
        rw [if_neg q1, if_pos q2]
        simp only [f0_0, gN (show 4 < 5 by omega), am_b_some]
        rw [if_pos hz]; (first | exact ⟨fit_i _, rfl, rfl⟩ | exact ⟨fit_i _, rfl, trivial⟩ | exact ⟨fit_i _, trivial, rfl⟩ | exact ⟨fit_i _, trivial, trivial⟩)
      · refine en_X5_phase (cD hc) rfl rfl (ch_X5_phase_0 ⟨_, _, ok_in, ?_⟩)
        rw [in5, if_neg (nI_yes hv)]
        simp only [cD hc, gD_0 hc, gD_1 hc, gD_2 hc, gD_3 hc, gD_4 hc, gD_5 hc, gD_6 hc, gD_7 hc, gD_8 hc, gD_9 hc, gD_10 hc, gD_11 hc, gD_12 hc, gD_13 hc, gD_14 hc, gD_15 hc, gD_16 hc, gD_17 hc, gD_18 hc, gD_19 hc, pD_1 hc, pD_2 hc, pD_3 hc, pD_5 hc, pD_8 hc, pD_11 hc, pD_12 hc, pD_13 hc, pD_14 hc, pD_15 hc, am_b_some, l30 h hc, e30]
        rw [if_pos hz]; (first | exact ⟨fit_i _, rfl, rfl⟩ | exact ⟨fit_i _, rfl, trivial⟩ | exact ⟨fit_i _, trivial, rfl⟩ | exact ⟨fit_i _, trivial, trivial⟩)
    · have hne : ¬ (S 0).1 4 = 0 := by rw [hz]; decide +kernel
      refine both_same ⟨n, m, c, hI⟩ (x := (S 0).2 9 p) ?_ (fun h hc => ?_)
      · refine en_X4_phase k_0 rfl rfl (ch_X4_phase_0 ?_)
        rw [if_neg q1, if_pos q2]
        simp only [f0_0, gN (show 4 < 5 by omega), am_b_some]
        rw [if_neg hne]
        simp only [f0_0, gN_9, lN_9 hp, am_b_some]
        (first | exact ⟨fit_i _, rfl, rfl⟩ | exact ⟨fit_i _, rfl, trivial⟩ | exact ⟨fit_i _, trivial, rfl⟩ | exact ⟨fit_i _, trivial, trivial⟩)
      · refine en_X5_phase (cD hc) rfl rfl (ch_X5_phase_0 ⟨_, _, ok_in, ?_⟩)
        rw [in5, if_neg (nI_yes hv)]
        simp only [cD hc, gD_0 hc, gD_1 hc, gD_2 hc, gD_3 hc, gD_4 hc, gD_5 hc, gD_6 hc, gD_7 hc, gD_8 hc, gD_9 hc, gD_10 hc, gD_11 hc, gD_12 hc, gD_13 hc, gD_14 hc, gD_15 hc, gD_16 hc, gD_17 hc, gD_18 hc, gD_19 hc, pD_1 hc, pD_2 hc, pD_3 hc, pD_5 hc, pD_8 hc, pD_11 hc, pD_12 hc, pD_13 hc, pD_14 hc, pD_15 hc, am_b_some, l30 h hc, e30]
        rw [if_neg hne]
        simp only [cD hc, gD_0 hc, gD_1 hc, gD_2 hc, gD_3 hc, gD_4 hc, gD_5 hc, gD_6 hc, gD_7 hc, gD_8 hc, gD_9 hc, gD_10 hc, gD_11 hc, gD_12 hc, gD_13 hc, gD_14 hc, gD_15 hc, gD_16 hc, gD_17 hc, gD_18 hc, gD_19 hc, pD_1 hc, pD_2 hc, pD_3 hc, pD_5 hc, pD_8 hc, pD_11 hc, pD_12 hc, pD_13 hc, pD_14 hc, pD_15 hc, am_b_some, j25, lD_0 hc (show 25 + p < 372 by omega)]
        have := hb.2.2 hz p hp
        simp only [Nat.zero_add] at this
        rw [this]
        (first | exact ⟨fit_i _, rfl, rfl⟩ | exact ⟨fit_i _, rfl, trivial⟩ | exact ⟨fit_i _, trivial, rfl⟩ | exact ⟨fit_i _, trivial, trivial⟩)
end DG
