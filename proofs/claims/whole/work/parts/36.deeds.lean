/-! DEEDS OF BOTH -/
section DE
variable {L : Nat} {xs : Nat → Int32} {P : st_P} {S : Nat → sg_S} {h : am_H} {n m c : Nat} {k1 k2 : Nat} {args : List Value}
theorem both_at {x : Int32} {P' : st_P} {S1 : Nat → sg_S} {D' : sg_S} (hI : INV P' (va_up S1 16 D')) (h16 : S1 16 = S 16) (A : am_ok L xs k1 (.ref 0 :: args) (HP P S) (some x) (HP P' S1)) (B : am_ok L xs k2 (.ref 98 :: args) (ob sgD (HP P' S1) 98 (S 16)) (some x) (ob sgD (HP P' S1) 98 D')) : both L xs P S k1 k2 args := by
  refine ⟨x, P', va_up S1 16 D', hI, ?_, ?_⟩
  · rw [vu_vu, ← h16, vu_id]; exact A
  · rw [vu_vu, ← h16, vu_id]
    rw [← h16] at B
    exact onD B
theorem onB0 {D : sg_S} {kk : Nat} {as : List Value} {r : Option Int32} (H : am_ok L xs kk as (ob sgD h 98 (dB D 0 (fun j => D.2 0 (0 + j)))) r (ob sgD h 98 (dB D 0 (fun j => D.2 0 (0 + j))))) : am_ok L xs kk as (ob sgD h 98 D) r (ob sgD h 98 D) := by rwa [dB_id] at H
theorem onB {D X : sg_S} {kk : Nat} {as : List Value} {r : Option Int32} (H : am_ok L xs kk as (ob sgD h 98 (dB D 0 (fun j => D.2 0 (0 + j)))) r (ob sgD h 98 X)) : am_ok L xs kk as (ob sgD h 98 D) r (ob sgD h 98 X) := by rwa [dB_id] at H
theorem gN_5 : am_gR (HP P S) 1 0 5 = some (1 + 1) := by
  conv => lhs; rw [← fiN (P := P) (S := S)]
  exact gM_5 bN
theorem lN_5 {v : Nat} (hv : v < 8) : am_lI (HP P S) .int (1 + 1) (nI v) = some ((S 0).2 5 v) := by
  conv => lhs; rw [← fiN (P := P) (S := S)]
  exact lM_5 bN hv
theorem sN_5 {v : Nat} {x : Int32} (hv : v < 8) : am_sI (HP P S) .int (1 + 1) (nI v) x = some (HP P (va_up S 0 ((S 0).1, va_up (S 0).2 5 (upd ((S 0).2 5) v x)))) := by
  conv => lhs; rw [← fiN (P := P) (S := S)]
  rw [sM_5 bN hv, foN]
theorem gN_6 : am_gR (HP P S) 1 0 6 = some (1 + 2) := by
  conv => lhs; rw [← fiN (P := P) (S := S)]
  exact gM_6 bN
theorem lN_6 {v : Nat} (hv : v < 8) : am_lI (HP P S) .int (1 + 2) (nI v) = some ((S 0).2 6 v) := by
  conv => lhs; rw [← fiN (P := P) (S := S)]
  exact lM_6 bN hv
theorem sN_6 {v : Nat} {x : Int32} (hv : v < 8) : am_sI (HP P S) .int (1 + 2) (nI v) x = some (HP P (va_up S 0 ((S 0).1, va_up (S 0).2 6 (upd ((S 0).2 6) v x)))) := by
  conv => lhs; rw [← fiN (P := P) (S := S)]
  rw [sM_6 bN hv, foN]
theorem gN_7 : am_gR (HP P S) 1 0 7 = some (1 + 3) := by
  conv => lhs; rw [← fiN (P := P) (S := S)]
  exact gM_7 bN
theorem lN_7 {v : Nat} (hv : v < 8) : am_lI (HP P S) .int (1 + 3) (nI v) = some ((S 0).2 7 v) := by
  conv => lhs; rw [← fiN (P := P) (S := S)]
  exact lM_7 bN hv
theorem sN_7 {v : Nat} {x : Int32} (hv : v < 8) : am_sI (HP P S) .int (1 + 3) (nI v) x = some (HP P (va_up S 0 ((S 0).1, va_up (S 0).2 7 (upd ((S 0).2 7) v x)))) := by
  conv => lhs; rw [← fiN (P := P) (S := S)]
  rw [sM_7 bN hv, foN]
theorem gN_8 : am_gR (HP P S) 1 0 8 = some (1 + 4) := by
  conv => lhs; rw [← fiN (P := P) (S := S)]
  exact gM_8 bN
theorem lN_8 {v : Nat} (hv : v < 8) : am_lI (HP P S) .int (1 + 4) (nI v) = some ((S 0).2 8 v) := by
  conv => lhs; rw [← fiN (P := P) (S := S)]
  exact lM_8 bN hv
theorem sN_8 {v : Nat} {x : Int32} (hv : v < 8) : am_sI (HP P S) .int (1 + 4) (nI v) x = some (HP P (va_up S 0 ((S 0).1, va_up (S 0).2 8 (upd ((S 0).2 8) v x)))) := by
  conv => lhs; rw [← fiN (P := P) (S := S)]
  rw [sM_8 bN hv, foN]
theorem gN_9 : am_gR (HP P S) 1 0 9 = some (1 + 5) := by
  conv => lhs; rw [← fiN (P := P) (S := S)]
  exact gM_9 bN
theorem lN_9 {v : Nat} (hv : v < 5) : am_lI (HP P S) .int (1 + 5) (nI v) = some ((S 0).2 9 v) := by
  conv => lhs; rw [← fiN (P := P) (S := S)]
  exact lM_9 bN hv
theorem cSt (hI : INVn n m c P S) {a : Int32} : am_ok L xs m_X0_isStation [.ref 1, .int a] (HP P S) (some (if isIn n a then 1 else 0)) (HP P S) := onN0 (ok_isStation bN hI.1.2.2.1.1.1)
theorem cSl (hI : INVn n m c P S) {a : Int32} : am_ok L xs m_X0_isSlot [.ref 1, .int a] (HP P S) (some (if isIn m a then 1 else 0)) (HP P S) := onN0 (ok_isSlot bN hI.1.2.2.1.1.2.1)
theorem cPa (hI : INVn n m c P S) {a b : Int32} : am_ok L xs m_X0_isPair [.ref 1, .int a, .int b] (HP P S) (some (if isTwo n a b then 1 else 0)) (HP P S) := onN0 (ok_isPair bN hI.1.2.2.1.1.1)
theorem dSt (hI : INVn n m c P S) (hc : 98 + 10 < h.1) {a : Int32} : am_ok L xs m_X5_isStation [.ref 98, .int a] (ob sgD h 98 (S 16)) (some (if isIn n a then 1 else 0)) (ob sgD h 98 (S 16)) := ok_isStationD hc hI.1.2.1.1 (by have := hI.1.1.1.1; omega) hI.1.1.1.2
theorem dSl (hI : INVn n m c P S) (hc : 98 + 10 < h.1) {a : Int32} : am_ok L xs m_X5_isSlot [.ref 98, .int a] (ob sgD h 98 (S 16)) (some (if isIn m a then 1 else 0)) (ob sgD h 98 (S 16)) := ok_isSlotD hc hI.1.2.1.2.1 hI.1.1.2.1.1 (by have := hI.1.1.2.1.2; omega)
theorem dTw (hI : INVn n m c P S) (hc : 98 + 10 < h.1) {a b : Int32} : am_ok L xs m_X5_areTwo [.ref 98, .int a, .int b] (ob sgD h 98 (S 16)) (some (if isTwo n a b then 1 else 0)) (ob sgD h 98 (S 16)) := ok_areTwo hc hI.1.2.1.1 (by have := hI.1.1.1.1; omega) hI.1.1.1.2
theorem two_val (h8 : n ≤ 8) {a b : Int32} (e : isTwo n a b = true) : ∃ u v, (u < n ∧ v < n ∧ ¬ u = v) ∧ a = nI u ∧ b = nI v := by
  unfold isTwo at e
  simp only [Bool.and_eq_true, decide_eq_true_eq] at e
  obtain ⟨⟨e1, e2⟩, e3⟩ := e
  obtain ⟨u, hu, rfl⟩ := isIn_val (by omega) e1
  obtain ⟨v, hv, rfl⟩ := isIn_val (by omega) e2
  exact ⟨u, v, ⟨hu, hv, fun z => e3 (by rw [z])⟩, rfl, rfl⟩
theorem deed (hI : INVn n m c P S) : ∃ P1 S1 D1, am_ok L xs m_X1_remember [.ref 17, .ref 1] (HP P S) none (HP P1 S1) ∧ (S1 0 = S 0 ∧ S1 16 = S 16) ∧ (∀ h : am_H, 98 + 10 < h.1 → am_ok L xs m_X5_keepPast [.ref 98] (ob sgD h 98 (S 16)) none (ob sgD h 98 D1)) ∧ (D1.1 1 = nI n ∧ D1.1 2 = nI m ∧ D1.1 3 = nI c) ∧ bOf (S 0) D1 (fun j => D1.2 0 (0 + j)) ∧ ∀ (M : sg_S) (k g : Nat → Int32), wfS M n m c → bOf M D1 k → INVn n m c P1 (va_up (va_up S1 0 M) 16 (dB (D1.1, va_up D1.2 18 g) 0 k)) := by
  obtain ⟨x, u, ⟨hx, hu⟩, ⟨e1, e2, e3⟩, hb⟩ := hI.2.1
  have I1 := INV_past hI hx hu e1 e2 e3 hb
  refine ⟨_, _, _, ok_remember hx hu e1 e2 hI.1.2.2.1.2.2.1, ⟨vu_ne _ _ (by omega), vu_ne _ _ (by omega)⟩, fun h hc => ok_keepPast hc e3 hu, ?_, ?_, fun M k g hw hbM => ?_⟩
  · have := I1.1.2.1
    rwa [vu_at] at this
  · have := I1.1.2.2.2
    rwa [vu_at, vu_ne _ _ (show ¬ 0 = 16 by omega), vu_ne _ _ (show ¬ 0 = 2 + x by omega)] at this
  · have := INV_now I1 (M := M) (k := k) (g := g) hw (by rw [vu_at]; exact hbM)
    rw [vu_at] at this
    have sw : ∀ (A : Nat → sg_S) (X Y : sg_S), va_up (va_up (va_up A 16 X) 0 M) 16 Y = va_up (va_up A 0 M) 16 Y := by
      intro A X Y
      funext i
      unfold va_up
      by_cases q : i = 16
      · simp [q]
      · by_cases q2 : i = 0
        · simp [q2]
        · simp [q, q2]
    rw [sw] at this
    exact this
theorem both_station (hI : INVn n m c P S) {a b : Int32} : both L xs P S m_X4_station m_X5_station [.int a, .int b] := by
  have hd := hI.1.1
  have hw := hI.1.2.2.1
  have hM := hI.1.2.2.2.1
  cases hv : isIn n a
  · refine both_same ⟨n, m, c, hI⟩ (x := -2) ?_ (fun h hc => ?_)
    · refine en_X4_station k_0 rfl rfl (ch_X4_station_0 ?_)
      simp only [f0_0, am_b_some]
      refine ⟨_, _, cSt hI, ?_⟩
      rw [if_pos (nI_no hv)]; (first | exact ⟨fit_i _, rfl, rfl⟩ | exact ⟨fit_i _, rfl, trivial⟩ | exact ⟨fit_i _, trivial, rfl⟩ | exact ⟨fit_i _, trivial, trivial⟩)
    · refine en_X5_station (cD hc) rfl rfl (ch_X5_station_0 ⟨_, _, dSt hI hc, ?_⟩)
      rw [if_pos (nI_no hv)]; (first | exact ⟨fit_i _, rfl, rfl⟩ | exact ⟨fit_i _, rfl, trivial⟩ | exact ⟨fit_i _, trivial, rfl⟩ | exact ⟨fit_i _, trivial, trivial⟩)
  · obtain ⟨v, hvn, rfl⟩ := isIn_val (by have := hd.1.2; omega) hv
    have hv8 : v < 8 := by have := hd.1.2; omega
    have h8 := hd.1.2
    have b0 : ∀ {a j : Nat}, a + 8 ≤ 31 → j < 8 → (S 16).2 0 (a + j) = seg (fun j => (S 16).2 0 (0 + j)) a j := fun {a j} _ hj => by
      rw [seg_at _ _ hj, Nat.zero_add]
    have j1 : (1 : Int32) + nI v = nI (1 + v) := nI_add 1 v
    have j9 : (9 : Int32) + nI v = nI (9 + v) := nI_add 9 v
    have j17 : (17 : Int32) + nI v = nI (17 + v) := nI_add 17 v
    have go : ∀ (x : Int32), am_ok L xs m_X4_station [.ref 0, .int (nI v), .int b] (HP P S) (some x) (HP P S) → (∀ h : am_H, 98 + 10 < h.1 → am_ok L xs m_X5_station [.ref 98, .int (nI v), .int b] (ob sgD h 98 (S 16)) (some x) (ob sgD h 98 (S 16))) → both L xs P S m_X4_station m_X5_station [.int (nI v), .int b] := fun x A B => both_same ⟨n, m, c, hI⟩ A B
    by_cases q0 : b = nI 0
    · refine go ((S 0).2 5 v) ?_ (fun h hc => ?_)
      · refine en_X4_station k_0 rfl rfl (ch_X4_station_0 ?_)
        simp only [f0_0, am_b_some]
        refine ⟨_, _, cSt hI, ?_⟩
        rw [if_neg (nI_yes hv)]
        refine ⟨fun _ => ?_, fun z => absurd q0 z⟩
        simp only [f0_0, am_b_some, gN_5, lN_5 hv8]; (first | exact ⟨fit_i _, rfl, rfl⟩ | exact ⟨fit_i _, rfl, trivial⟩ | exact ⟨fit_i _, trivial, rfl⟩ | exact ⟨fit_i _, trivial, trivial⟩)
      · refine en_X5_station (cD hc) rfl rfl (ch_X5_station_0 ⟨_, _, dSt hI hc, ?_⟩)
        rw [if_neg (nI_yes hv)]
        refine ⟨fun _ => ?_, fun z => absurd q0 z⟩
        simp only [cD hc, gD_0 hc, gD_1 hc, gD_2 hc, gD_3 hc, gD_4 hc, gD_5 hc, gD_6 hc, gD_7 hc, gD_8 hc, gD_9 hc, gD_10 hc, gD_11 hc, gD_12 hc, gD_13 hc, gD_14 hc, gD_15 hc, gD_16 hc, gD_17 hc, gD_18 hc, gD_19 hc, pD_1 hc, pD_2 hc, pD_3 hc, pD_5 hc, pD_8 hc, pD_11 hc, pD_12 hc, pD_13 hc, pD_14 hc, pD_15 hc, am_b_some, lD_4 hc hv8, hM.1.1]; (first | exact ⟨fit_i _, rfl, rfl⟩ | exact ⟨fit_i _, rfl, trivial⟩ | exact ⟨fit_i _, trivial, rfl⟩ | exact ⟨fit_i _, trivial, trivial⟩)
    · by_cases q1 : b = nI 1
      · refine go ((S 0).2 6 v) ?_ (fun h hc => ?_)
        · refine en_X4_station k_0 rfl rfl (ch_X4_station_0 ?_)
          simp only [f0_0, am_b_some]
          refine ⟨_, _, cSt hI, ?_⟩
          rw [if_neg (nI_yes hv)]
          refine ⟨fun z => absurd z q0, fun _ => ⟨fun _ => ?_, fun z => absurd q1 z⟩⟩
          simp only [f0_0, am_b_some, gN_6, lN_6 hv8]; (first | exact ⟨fit_i _, rfl, rfl⟩ | exact ⟨fit_i _, rfl, trivial⟩ | exact ⟨fit_i _, trivial, rfl⟩ | exact ⟨fit_i _, trivial, trivial⟩)
        · refine en_X5_station (cD hc) rfl rfl (ch_X5_station_0 ⟨_, _, dSt hI hc, ?_⟩)
          rw [if_neg (nI_yes hv)]
          refine ⟨fun z => absurd z q0, fun _ => ⟨fun _ => ?_, fun z => absurd q1 z⟩⟩
          simp only [cD hc, gD_0 hc, gD_1 hc, gD_2 hc, gD_3 hc, gD_4 hc, gD_5 hc, gD_6 hc, gD_7 hc, gD_8 hc, gD_9 hc, gD_10 hc, gD_11 hc, gD_12 hc, gD_13 hc, gD_14 hc, gD_15 hc, gD_16 hc, gD_17 hc, gD_18 hc, gD_19 hc, pD_1 hc, pD_2 hc, pD_3 hc, pD_5 hc, pD_8 hc, pD_11 hc, pD_12 hc, pD_13 hc, pD_14 hc, pD_15 hc, am_b_some, j1, lD_0 hc (show 1 + v < 372 by omega)]
          rw [b0 (by omega) hv8, hM.1.2.1]; (first | exact ⟨fit_i _, rfl, rfl⟩ | exact ⟨fit_i _, rfl, trivial⟩ | exact ⟨fit_i _, trivial, rfl⟩ | exact ⟨fit_i _, trivial, trivial⟩)
      · by_cases q2 : b = nI 2
        · refine go ((S 0).2 7 v) ?_ (fun h hc => ?_)
          · refine en_X4_station k_0 rfl rfl (ch_X4_station_0 ?_)
            simp only [f0_0, am_b_some]
            refine ⟨_, _, cSt hI, ?_⟩
            rw [if_neg (nI_yes hv)]
            refine ⟨fun z => absurd z q0, fun _ => ⟨fun z => absurd z q1, fun _ => ⟨fun _ => ?_, fun z => absurd q2 z⟩⟩⟩
            simp only [f0_0, am_b_some, gN_7, lN_7 hv8]; (first | exact ⟨fit_i _, rfl, rfl⟩ | exact ⟨fit_i _, rfl, trivial⟩ | exact ⟨fit_i _, trivial, rfl⟩ | exact ⟨fit_i _, trivial, trivial⟩)
          · refine en_X5_station (cD hc) rfl rfl (ch_X5_station_0 ⟨_, _, dSt hI hc, ?_⟩)
            rw [if_neg (nI_yes hv)]
            refine ⟨fun z => absurd z q0, fun _ => ⟨fun z => absurd z q1, fun _ => ⟨fun _ => ?_, fun z => absurd q2 z⟩⟩⟩
            simp only [cD hc, gD_0 hc, gD_1 hc, gD_2 hc, gD_3 hc, gD_4 hc, gD_5 hc, gD_6 hc, gD_7 hc, gD_8 hc, gD_9 hc, gD_10 hc, gD_11 hc, gD_12 hc, gD_13 hc, gD_14 hc, gD_15 hc, gD_16 hc, gD_17 hc, gD_18 hc, gD_19 hc, pD_1 hc, pD_2 hc, pD_3 hc, pD_5 hc, pD_8 hc, pD_11 hc, pD_12 hc, pD_13 hc, pD_14 hc, pD_15 hc, am_b_some, j17, lD_0 hc (show 17 + v < 372 by omega)]
            rw [b0 (by omega) hv8, hM.1.2.2.1]; (first | exact ⟨fit_i _, rfl, rfl⟩ | exact ⟨fit_i _, rfl, trivial⟩ | exact ⟨fit_i _, trivial, rfl⟩ | exact ⟨fit_i _, trivial, trivial⟩)
        · by_cases q3 : b = nI 3
          · refine go (near ((S 0).2 7) n v) ?_ (fun h hc => ?_)
            · refine en_X4_station k_0 rfl rfl (ch_X4_station_0 ?_)
              simp only [f0_0, am_b_some]
              refine ⟨_, _, cSt hI, ?_⟩
              rw [if_neg (nI_yes hv)]
              refine ⟨fun z => absurd z q0, fun _ => ⟨fun z => absurd z q1, fun _ => ⟨fun z => absurd z q2, fun _ => ⟨fun _ => ?_, fun z => absurd q3 z⟩⟩⟩⟩
              simp only [f0_0, am_b_some]
              refine ⟨_, _, onN0 (ok_near bN hw.1.1 h8 hv8), ?_⟩
              (first | exact ⟨fit_i _, rfl, rfl⟩ | exact ⟨fit_i _, rfl, trivial⟩ | exact ⟨fit_i _, trivial, rfl⟩ | exact ⟨fit_i _, trivial, trivial⟩)
            · refine en_X5_station (cD hc) rfl rfl (ch_X5_station_0 ⟨_, _, dSt hI hc, ?_⟩)
              rw [if_neg (nI_yes hv)]
              refine ⟨fun z => absurd z q0, fun _ => ⟨fun z => absurd z q1, fun _ => ⟨fun z => absurd z q2, fun _ => ⟨fun _ => ?_, fun z => absurd q3 z⟩⟩⟩⟩
              refine ⟨_, _, onB0 (ok_nearD (B := 0) hc (by omega) hI.1.2.1.1 h8 hv8), ?_⟩
              rw [hM.1.2.2.1]
              (first | exact ⟨fit_i _, rfl, rfl⟩ | exact ⟨fit_i _, rfl, trivial⟩ | exact ⟨fit_i _, trivial, rfl⟩ | exact ⟨fit_i _, trivial, trivial⟩)
          · by_cases q4 : b = nI 4
            · refine go ((S 0).2 8 v) ?_ (fun h hc => ?_)
              · refine en_X4_station k_0 rfl rfl (ch_X4_station_0 ?_)
                simp only [f0_0, am_b_some]
                refine ⟨_, _, cSt hI, ?_⟩
                rw [if_neg (nI_yes hv)]
                refine ⟨fun z => absurd z q0, fun _ => ⟨fun z => absurd z q1, fun _ => ⟨fun z => absurd z q2, fun _ => ⟨fun z => absurd z q3, fun _ => ⟨fun _ => ?_, fun z => absurd q4 z⟩⟩⟩⟩⟩
                simp only [f0_0, am_b_some, gN_8, lN_8 hv8]; (first | exact ⟨fit_i _, rfl, rfl⟩ | exact ⟨fit_i _, rfl, trivial⟩ | exact ⟨fit_i _, trivial, rfl⟩ | exact ⟨fit_i _, trivial, trivial⟩)
              · refine en_X5_station (cD hc) rfl rfl (ch_X5_station_0 ⟨_, _, dSt hI hc, ?_⟩)
                rw [if_neg (nI_yes hv)]
                refine ⟨fun z => absurd z q0, fun _ => ⟨fun z => absurd z q1, fun _ => ⟨fun z => absurd z q2, fun _ => ⟨fun z => absurd z q3, fun _ => ⟨fun _ => ?_, fun z => absurd q4 z⟩⟩⟩⟩⟩
                simp only [cD hc, gD_0 hc, gD_1 hc, gD_2 hc, gD_3 hc, gD_4 hc, gD_5 hc, gD_6 hc, gD_7 hc, gD_8 hc, gD_9 hc, gD_10 hc, gD_11 hc, gD_12 hc, gD_13 hc, gD_14 hc, gD_15 hc, gD_16 hc, gD_17 hc, gD_18 hc, gD_19 hc, pD_1 hc, pD_2 hc, pD_3 hc, pD_5 hc, pD_8 hc, pD_11 hc, pD_12 hc, pD_13 hc, pD_14 hc, pD_15 hc, am_b_some, j9, lD_0 hc (show 9 + v < 372 by omega)]
                rw [b0 (by omega) hv8, hM.1.2.2.2]; (first | exact ⟨fit_i _, rfl, rfl⟩ | exact ⟨fit_i _, rfl, trivial⟩ | exact ⟨fit_i _, trivial, rfl⟩ | exact ⟨fit_i _, trivial, trivial⟩)
            · by_cases q5 : b = nI 5
              · refine go (if cov ((S 0).2 5) ((S 0).2 8) v then 1 else 0) ?_ (fun h hc => ?_)
                · refine en_X4_station k_0 rfl rfl (ch_X4_station_0 ?_)
                  simp only [f0_0, am_b_some]
                  refine ⟨_, _, cSt hI, ?_⟩
                  rw [if_neg (nI_yes hv)]
                  refine ⟨fun z => absurd z q0, fun _ => ⟨fun z => absurd z q1, fun _ => ⟨fun z => absurd z q2, fun _ => ⟨fun z => absurd z q3, fun _ => ⟨fun z => absurd z q4, fun _ => ⟨fun _ => ?_, fun z => absurd q5 z⟩⟩⟩⟩⟩⟩
                  simp only [f0_0, am_b_some]
                  refine ⟨_, _, onN0 (ok_covered bN hw.1.1 h8 (fun _ hv => wfH_sm hw.2.2.2.2.2.2 hd.2.1.2 hv)), _, _, ok_has (by omega), ?_⟩
                  rw [show bt (covered ((S 0).2 5) ((S 0).2 8) n) v = cov ((S 0).2 5) ((S 0).2 8) v by unfold covered; rw [bt_bs _ (by omega) (by omega), decide_eq_true hvn, Bool.true_and]]
                  cases cov ((S 0).2 5) ((S 0).2 8) v
                  · rw [if_pos (by rfl)]; (first | exact ⟨fit_i _, rfl, rfl⟩ | exact ⟨fit_i _, rfl, trivial⟩ | exact ⟨fit_i _, trivial, rfl⟩ | exact ⟨fit_i _, trivial, trivial⟩)
                  · rw [if_neg (by decide)]; (first | exact ⟨fit_i _, rfl, rfl⟩ | exact ⟨fit_i _, rfl, trivial⟩ | exact ⟨fit_i _, trivial, rfl⟩ | exact ⟨fit_i _, trivial, trivial⟩)
                · refine en_X5_station (cD hc) rfl rfl (ch_X5_station_0 ⟨_, _, dSt hI hc, ?_⟩)
                  rw [if_neg (nI_yes hv)]
                  refine ⟨fun z => absurd z q0, fun _ => ⟨fun z => absurd z q1, fun _ => ⟨fun z => absurd z q2, fun _ => ⟨fun z => absurd z q3, fun _ => ⟨fun z => absurd z q4, fun _ => ⟨fun _ => ?_, fun z => absurd q5 z⟩⟩⟩⟩⟩⟩
                  refine ⟨_, _, onB0 (ok_isCovered (B := 0) hc (by omega) hv8), ?_⟩
                  rw [hM.1.1, hM.1.2.2.2]
                  cases cov ((S 0).2 5) ((S 0).2 8) v
                  · rw [if_pos (by rfl)]; (first | exact ⟨fit_i _, rfl, rfl⟩ | exact ⟨fit_i _, rfl, trivial⟩ | exact ⟨fit_i _, trivial, rfl⟩ | exact ⟨fit_i _, trivial, trivial⟩)
                  · rw [if_neg (by decide)]; (first | exact ⟨fit_i _, rfl, rfl⟩ | exact ⟨fit_i _, rfl, trivial⟩ | exact ⟨fit_i _, trivial, rfl⟩ | exact ⟨fit_i _, trivial, trivial⟩)
              · refine go (-3) ?_ (fun h hc => ?_)
                · refine en_X4_station k_0 rfl rfl (ch_X4_station_0 ?_)
                  simp only [f0_0, am_b_some]
                  refine ⟨_, _, cSt hI, ?_⟩
                  rw [if_neg (nI_yes hv)]
                  refine ⟨fun z => absurd z q0, fun _ => ⟨fun z => absurd z q1, fun _ => ⟨fun z => absurd z q2, fun _ => ⟨fun z => absurd z q3, fun _ => ⟨fun z => absurd z q4, fun _ => ⟨fun z => absurd z q5, fun _ => ?_⟩⟩⟩⟩⟩⟩
                  (first | exact ⟨fit_i _, rfl, rfl⟩ | exact ⟨fit_i _, rfl, trivial⟩ | exact ⟨fit_i _, trivial, rfl⟩ | exact ⟨fit_i _, trivial, trivial⟩)
                · refine en_X5_station (cD hc) rfl rfl (ch_X5_station_0 ⟨_, _, dSt hI hc, ?_⟩)
                  rw [if_neg (nI_yes hv)]
                  refine ⟨fun z => absurd z q0, fun _ => ⟨fun z => absurd z q1, fun _ => ⟨fun z => absurd z q2, fun _ => ⟨fun z => absurd z q3, fun _ => ⟨fun z => absurd z q4, fun _ => ⟨fun z => absurd z q5, fun _ => ?_⟩⟩⟩⟩⟩⟩
                  (first | exact ⟨fit_i _, rfl, rfl⟩ | exact ⟨fit_i _, rfl, trivial⟩ | exact ⟨fit_i _, trivial, rfl⟩ | exact ⟨fit_i _, trivial, trivial⟩)
theorem both_slot (hI : INVn n m c P S) {a b : Int32} : both L xs P S m_X4_slot m_X5_slot [.int a, .int b] := by
  have hd := hI.1.1
  have hw := hI.1.2.2.1
  have hM := hI.1.2.2.2.1
  have h8 := hd.1.2
  have hsm : ∀ v, v < 8 → sm ((S 0).2 8 v) := fun _ hv => wfH_sm hw.2.2.2.2.2.2 hd.2.1.2 hv
  cases hv : isIn m a
  · refine both_same ⟨n, m, c, hI⟩ (x := -2) ?_ (fun h hc => ?_)
    · refine en_X4_slot k_0 rfl rfl (ch_X4_slot_0 ?_)
      simp only [f0_0, am_b_some]
      refine ⟨_, _, cSl hI, ?_⟩
      rw [if_pos (nI_no hv)]; (first | exact ⟨fit_i _, rfl, rfl⟩ | exact ⟨fit_i _, rfl, trivial⟩ | exact ⟨fit_i _, trivial, rfl⟩ | exact ⟨fit_i _, trivial, trivial⟩)
    · refine en_X5_slot (cD hc) rfl rfl (ch_X5_slot_0 ⟨_, _, dSl hI hc, ?_⟩)
      rw [if_pos (nI_no hv)]; (first | exact ⟨fit_i _, rfl, rfl⟩ | exact ⟨fit_i _, rfl, trivial⟩ | exact ⟨fit_i _, trivial, rfl⟩ | exact ⟨fit_i _, trivial, trivial⟩)
  · obtain ⟨s, hs, rfl⟩ := isIn_val (by have := hd.2.1.2; omega) hv
    have hs4 : s < 4 := by have := hd.2.1.2; omega
    by_cases q0 : b = nI 0
    · refine both_same ⟨n, m, c, hI⟩ (x := holders ((S 0).2 8) n s) ?_ (fun h hc => ?_)
      · refine en_X4_slot k_0 rfl rfl (ch_X4_slot_0 ?_)
        simp only [f0_0, am_b_some]
        refine ⟨_, _, cSl hI, ?_⟩
        rw [if_neg (nI_yes hv)]
        refine ⟨fun _ => ?_, fun z => absurd q0 z⟩
        simp only [f0_0, am_b_some]
        refine ⟨_, _, onN0 (ok_holders bN hw.1.1 h8 (by omega)), ?_⟩
        (first | exact ⟨fit_i _, rfl, rfl⟩ | exact ⟨fit_i _, rfl, trivial⟩ | exact ⟨fit_i _, trivial, rfl⟩ | exact ⟨fit_i _, trivial, trivial⟩)
      · refine en_X5_slot (cD hc) rfl rfl (ch_X5_slot_0 ⟨_, _, dSl hI hc, ?_⟩)
        rw [if_neg (nI_yes hv), if_pos (show b = 0 from q0)]
        refine ⟨_, _, onB0 (ok_holdersD (B := 0) hc (by omega) hI.1.2.1.1 h8 (by omega)), ?_⟩
        rw [hM.1.2.2.2]
        (first | exact ⟨fit_i _, rfl, rfl⟩ | exact ⟨fit_i _, rfl, trivial⟩ | exact ⟨fit_i _, trivial, rfl⟩ | exact ⟨fit_i _, trivial, trivial⟩)
    · by_cases q1 : b = nI 1
      · refine both_same ⟨n, m, c, hI⟩ (x := contF ((S 0).2 7) ((S 0).2 5) ((S 0).2 8) n s) ?_ (fun h hc => ?_)
        · refine en_X4_slot k_0 rfl rfl (ch_X4_slot_0 ?_)
          simp only [f0_0, am_b_some]
          refine ⟨_, _, cSl hI, ?_⟩
          rw [if_neg (nI_yes hv)]
          refine ⟨fun z => absurd z q0, fun _ => ⟨fun _ => ?_, fun z => absurd q1 z⟩⟩
          simp only [f0_0, am_b_some]
          refine ⟨_, _, onN0 (ok_contenders bN hw.1.1 h8 hsm (by omega)), ?_⟩
          (first | exact ⟨fit_i _, rfl, rfl⟩ | exact ⟨fit_i _, rfl, trivial⟩ | exact ⟨fit_i _, trivial, rfl⟩ | exact ⟨fit_i _, trivial, trivial⟩)
        · refine en_X5_slot (cD hc) rfl rfl (ch_X5_slot_0 ⟨_, _, dSl hI hc, ?_⟩)
          rw [if_neg (nI_yes hv), if_neg (show ¬ b = 0 from q0), if_pos (show b = 1 from q1)]
          refine ⟨_, _, onB0 (ok_contendersD (B := 0) hc (by omega) hI.1.2.1.1 h8 (by omega)), ?_⟩
          rw [hM.1.2.2.2, hM.1.2.2.1, hM.1.1]
          (first | exact ⟨fit_i _, rfl, rfl⟩ | exact ⟨fit_i _, rfl, trivial⟩ | exact ⟨fit_i _, trivial, rfl⟩ | exact ⟨fit_i _, trivial, trivial⟩)
      · by_cases q2 : b = nI 2
        · refine both_same ⟨n, m, c, hI⟩ (x := nI (clN ((S 0).2 7) ((S 0).2 8) n ((1 : Int32) <<< (nI s &&& 31)))) ?_ (fun h hc => ?_)
          · refine en_X4_slot k_0 rfl rfl (ch_X4_slot_0 ?_)
            simp only [f0_0, am_b_some]
            refine ⟨_, _, cSl hI, ?_⟩
            rw [if_neg (nI_yes hv)]
            refine ⟨fun z => absurd z q0, fun _ => ⟨fun z => absurd z q1, fun _ => ⟨fun _ => ?_, fun z => absurd q2 z⟩⟩⟩
            simp only [f0_0, am_b_some]
            refine ⟨_, _, onN0 (ok_clashesBy bN hw.1.1 h8 hsm), ?_⟩
            (first | exact ⟨fit_i _, rfl, rfl⟩ | exact ⟨fit_i _, rfl, trivial⟩ | exact ⟨fit_i _, trivial, rfl⟩ | exact ⟨fit_i _, trivial, trivial⟩)
          · refine en_X5_slot (cD hc) rfl rfl (ch_X5_slot_0 ⟨_, _, dSl hI hc, ?_⟩)
            rw [if_neg (nI_yes hv), if_neg (show ¬ b = 0 from q0), if_neg (show ¬ b = 1 from q1), if_pos (show b = 2 from q2)]
            refine ⟨_, _, onB0 (ok_clashesByD (B := 0) hc (by omega) hI.1.2.1.1 h8 (by omega)), ?_⟩
            rw [hM.1.2.2.2, hM.1.2.2.1, clash_one hw.2.2.2.2.2.1 h8 (by omega)]
            (first | exact ⟨fit_i _, rfl, rfl⟩ | exact ⟨fit_i _, rfl, trivial⟩ | exact ⟨fit_i _, trivial, rfl⟩ | exact ⟨fit_i _, trivial, trivial⟩)
        · refine both_same ⟨n, m, c, hI⟩ (x := -3) ?_ (fun h hc => ?_)
          · refine en_X4_slot k_0 rfl rfl (ch_X4_slot_0 ?_)
            simp only [f0_0, am_b_some]
            refine ⟨_, _, cSl hI, ?_⟩
            rw [if_neg (nI_yes hv)]
            refine ⟨fun z => absurd z q0, fun _ => ⟨fun z => absurd z q1, fun _ => ⟨fun z => absurd z q2, fun _ => ?_⟩⟩⟩
            (first | exact ⟨fit_i _, rfl, rfl⟩ | exact ⟨fit_i _, rfl, trivial⟩ | exact ⟨fit_i _, trivial, rfl⟩ | exact ⟨fit_i _, trivial, trivial⟩)
          · refine en_X5_slot (cD hc) rfl rfl (ch_X5_slot_0 ⟨_, _, dSl hI hc, ?_⟩)
            rw [if_neg (nI_yes hv), if_neg (show ¬ b = 0 from q0), if_neg (show ¬ b = 1 from q1), if_neg (show ¬ b = 2 from q2)]
            (first | exact ⟨fit_i _, rfl, rfl⟩ | exact ⟨fit_i _, rfl, trivial⟩ | exact ⟨fit_i _, trivial, rfl⟩ | exact ⟨fit_i _, trivial, trivial⟩)
end DE
