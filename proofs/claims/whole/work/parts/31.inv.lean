/-! WHAT HOLDS BETWEEN TWO CALLS; A CALL OF BOTH -/
def iM (n m c : Nat) (M D : sg_S) (k : Nat → Int32) : Prop := wfS M n m c ∧ bOf M D k
def iN (n m c : Nat) (S : Nat → sg_S) : Prop := dims n m c ∧ ((S 16).1 1 = nI n ∧ (S 16).1 2 = nI m ∧ (S 16).1 3 = nI c) ∧ iM n m c (S 0) (S 16) (fun j => (S 16).2 0 (0 + j))
def iP (n m c : Nat) (P : st_P) (S : Nat → sg_S) : Prop := ∃ x u, (x < 8 ∧ u ≤ 8) ∧ (P.1 = nI x ∧ P.2.1 = nI u ∧ (S 16).1 5 = nI u) ∧ ∀ i, i < u → iM n m c (S (2 + (x + 8 - u + i) % 8)) (S 16) (fun j => (S 16).2 0 (31 + 31 * i + j))
def iK (n m c : Nat) (P : st_P) (S : Nat → sg_S) : Prop := ∀ k, k < 2 → (S 16).2 6 k = P.2.2 k ∧ (P.2.2 k = 0 ∨ (P.2.2 k = 1 ∧ iM n m c (S (10 + k)) (S 16) (fun j => (S 16).2 0 (279 + 31 * k + j))))
def rng (x : Int32) : Prop := ¬ x < -999 ∧ ¬ 999 < x
def okR (T : sg_S) (f g : Nat → Int32) (t : Nat) : Prop := (T.1 2 = 1 ∧ T.1 1 = 0 ∧ f t = -1) ∨ (T.1 2 = 0 ∧ ∃ k, k ≤ 8 ∧ T.1 1 = nI k ∧ f t = nI k ∧ ∀ i, i < k → T.2 0 i = g (8 * t + i) ∧ rng (T.2 0 i))
def okT (T D : sg_S) (t : Nat) : Prop := okR T (D.2 9) (D.2 10) t
def iT (S : Nat → sg_S) : Prop := ∀ t, t < 3 → okT (S (13 + t)) (S 16) t
def wds : List Int32 := [109, 101, 115, 104, 0, 108, 105, 110, 107, 0, 119, 97, 110, 116, 0, 115, 104, 97, 114, 101]
def iX (S : Nat → sg_S) : Prop := (∃ ln, ln ≤ 200 ∧ (S 12).1 1 = nI ln ∧ (S 16).1 8 = nI ln ∧ ∀ i, i < ln → (S 12).2 0 i = (S 16).2 7 i) ∧ ∀ i, i < 20 → (S 16).2 17 i = wds.getD i 0
def tz4 (M : sg_S) : Prop := TZ (M.2 5) ∧ TZ (M.2 6) ∧ TZ (M.2 7) ∧ TZ (M.2 8)
def iZ (S : Nat → sg_S) : Prop := ∀ j, j < 12 → tz4 (S j)
def INVn (n m c : Nat) (P : st_P) (S : Nat → sg_S) : Prop := iN n m c S ∧ iP n m c P S ∧ iK n m c P S ∧ iT S ∧ iX S ∧ iZ S
def INV (P : st_P) (S : Nat → sg_S) : Prop := ∃ n m c, INVn n m c P S
def both (L : Nat) (xs : Nat → Int32) (P : st_P) (S : Nat → sg_S) (k1 k2 : Nat) (a : List Value) : Prop := ∃ x P' S', INV P' S' ∧ am_ok L xs k1 (.ref 0 :: a) (HP P S) (some x) (HP P' (va_up S' 16 (S 16))) ∧ am_ok L xs k2 (.ref 98 :: a) (HP P' (va_up S' 16 (S 16))) (some x) (HP P' S')
theorem bOf_cong {M D D' : sg_S} {k k' : Nat → Int32} (e : D'.2 4 = D.2 4) (ek : ∀ j, j < 31 → k' j = k j) (h : bOf M D k) : bOf M D' k' := by
  have sg : ∀ a, a + 8 ≤ 31 → seg k' a = seg k a := fun a ha => by
    funext v
    unfold seg
    by_cases q : v < 8
    · rw [if_pos q, if_pos q, ek _ (by omega)]
    · rw [if_neg q, if_neg q]
  obtain ⟨⟨⟨a1, a2, a3, a4⟩, a5⟩, a6, a7⟩ := h
  refine ⟨⟨⟨by rw [e]; exact a1, by rw [sg _ (by omega)]; exact a2, by rw [sg _ (by omega)]; exact a3, by rw [sg _ (by omega)]; exact a4⟩, by rw [ek 0 (by omega)]; exact a5⟩, by rw [ek 30 (by omega)]; exact a6, fun z p hp => by rw [ek _ (by omega)]; exact a7 z p hp⟩
theorem iM_cong {n m c : Nat} {M D D' : sg_S} {k k' : Nat → Int32} (e : D'.2 4 = D.2 4) (ek : ∀ j, j < 31 → k' j = k j) (h : iM n m c M D k) : iM n m c M D' k' := ⟨h.1, bOf_cong e ek h.2⟩
theorem nI_no {b : Bool} (e : b = false) : (if b then (1 : Int32) else 0) = 0 := by rw [e]; rfl
theorem nI_yes {b : Bool} (e : b = true) : ¬ (if b then (1 : Int32) else 0) = 0 := by rw [e]; decide
theorem isIn_val {n : Nat} (hn : n < 2 ^ 31) {x : Int32} (h : isIn n x = true) : ∃ t, t < n ∧ x = nI t := by
  unfold isIn at h
  have h := of_decide_eq_true h
  have z : (0 : Int32).toInt = 0 := by decide +kernel
  have e := nI_toInt (n := n) hn
  have h1 := h.1
  have h2 := h.2
  rw [Int32.lt_iff_toInt_lt] at h1 h2
  rw [z] at h1
  rw [e] at h2
  refine ⟨x.toInt.toNat, by omega, ?_⟩
  apply Int32.toInt_inj.mp
  rw [nI_toInt (by omega)]
  omega
theorem isIn_nI {n t : Nat} (ht : t < n) (hn : n < 2 ^ 31) : isIn n (nI t) = true := by
  unfold isIn
  refine decide_eq_true ⟨?_, nI_lt ht hn⟩
  exact nI_nlt (a := t) (b := 0) (Nat.zero_le _) (by omega)
section BT
variable {L : Nat} {xs : Nat → Int32} {P : st_P} {S : Nat → sg_S} {h : am_H} {k1 k2 : Nat} {args : List Value}
theorem both_of {x : Int32} {P' : st_P} {S1 : Nat → sg_S} {D' : sg_S} (hI : INV P' (va_up S1 16 D')) (h16 : S1 16 = S 16) (A : am_ok L xs k1 (.ref 0 :: args) (HP P S) (some x) (HP P' S1)) (B : ∀ h : am_H, 98 + 10 < h.1 → am_ok L xs k2 (.ref 98 :: args) (ob sgD h 98 (S 16)) (some x) (ob sgD h 98 D')) : both L xs P S k1 k2 args := by
  refine ⟨x, P', va_up S1 16 D', hI, ?_, ?_⟩
  · rw [vu_vu, ← h16, vu_id]; exact A
  · rw [vu_vu, ← h16, vu_id]
    have := B (HP P' S1) bD
    rw [← h16] at this
    exact onD this
theorem both_same {x : Int32} (hI : INV P S) (A : am_ok L xs k1 (.ref 0 :: args) (HP P S) (some x) (HP P S)) (B : ∀ h : am_H, 98 + 10 < h.1 → am_ok L xs k2 (.ref 98 :: args) (ob sgD h 98 (S 16)) (some x) (ob sgD h 98 (S 16))) : both L xs P S k1 k2 args := by
  refine both_of (S1 := S) (D' := S 16) ?_ rfl A B
  rw [vu_id]; exact hI
theorem ok_isTallyC {a : Int32} : am_ok L xs m_X4_isTally [.int a] h (some (if isIn 3 a then 1 else 0)) h := by
  refine en_X4_isTally rfl rfl (ch_X4_isTally_0 ?_)
  refine br2 (fun c => ?_) (fun c => br2 (fun d => ?_) (fun d => ?_))
  · rw [show isIn 3 a = false by unfold isIn; simp [c]]; (first | exact ⟨fit_0, rfl, rfl⟩ | exact ⟨fit_0, rfl, trivial⟩ | exact ⟨fit_0, trivial, rfl⟩ | exact ⟨fit_0, trivial, trivial⟩)
  · have d' : a < nI 3 := d
    rw [show isIn 3 a = true by unfold isIn; simp only [c, d', not_false_eq_true, and_self, decide_true]]; (first | exact ⟨fit_1, rfl, rfl⟩ | exact ⟨fit_1, rfl, trivial⟩ | exact ⟨fit_1, trivial, rfl⟩ | exact ⟨fit_1, trivial, trivial⟩)
  · have d' : ¬ a < nI 3 := d
    rw [show isIn 3 a = false by unfold isIn; simp only [d', and_false, decide_false]]; (first | exact ⟨fit_0, rfl, rfl⟩ | exact ⟨fit_0, rfl, trivial⟩ | exact ⟨fit_0, trivial, rfl⟩ | exact ⟨fit_0, trivial, trivial⟩)
theorem in3 (a : Int32) : decide (¬ a < 0 ∧ ¬ (2 : Int32) < a) = isIn 3 a := in_eq (n := 3) (by omega) (by omega) a
theorem in4 (a : Int32) : decide (¬ a < 0 ∧ ¬ (3 : Int32) < a) = isIn 4 a := in_eq (n := 4) (by omega) (by omega) a
theorem in2 (a : Int32) : decide (¬ a < 0 ∧ ¬ (1 : Int32) < a) = isIn 2 a := in_eq (n := 2) (by omega) (by omega) a
theorem ok_isTallyD {a : Int32} : am_ok L xs m_X5_isTally [.int a] h (some (if isIn 3 a then 1 else 0)) h := by
  refine en_X5_isTally rfl rfl (ch_X5_isTally_0 ⟨_, _, ok_in, ?_⟩)
  rw [in3]
  exact ⟨fit_b _, rfl, rfl⟩
def rngb (x : Int32) : Bool := decide (¬ x < -999 ∧ ¬ (999 : Int32) < x)
theorem rngb_of {x : Int32} (e : rngb x = true) : rng x := by
  unfold rngb at e
  show ¬ x < -999 ∧ ¬ 999 < x
  exact of_decide_eq_true e
theorem ok_isNumC {a : Int32} : am_ok L xs m_X4_isNumber [.int a] h (some (if rngb a then 1 else 0)) h := by
  refine en_X4_isNumber rfl rfl (ch_X4_isNumber_0 ?_)
  refine br2 (fun c => ?_) (fun c => br2 (fun d => ?_) (fun d => ?_))
  · rw [show rngb a = false by unfold rngb; simp [c]]; (first | exact ⟨fit_0, rfl, rfl⟩ | exact ⟨fit_0, rfl, trivial⟩ | exact ⟨fit_0, trivial, rfl⟩ | exact ⟨fit_0, trivial, trivial⟩)
  · rw [show rngb a = false by unfold rngb; simp [d]]; (first | exact ⟨fit_0, rfl, rfl⟩ | exact ⟨fit_0, rfl, trivial⟩ | exact ⟨fit_0, trivial, rfl⟩ | exact ⟨fit_0, trivial, trivial⟩)
  · rw [show rngb a = true by unfold rngb; simp only [c, d, not_false_eq_true, and_self, decide_true]]; (first | exact ⟨fit_1, rfl, rfl⟩ | exact ⟨fit_1, rfl, trivial⟩ | exact ⟨fit_1, trivial, rfl⟩ | exact ⟨fit_1, trivial, trivial⟩)
theorem ok_isNumD {a : Int32} : am_ok L xs m_X5_isNumber [.int a] h (some (if rngb a then 1 else 0)) h := by
  refine en_X5_isNumber rfl rfl (ch_X5_isNumber_0 ⟨_, _, ok_in, ?_⟩)
  exact ⟨fit_b _, rfl, rfl⟩
theorem i8 (t k : Nat) : (8 : Int32) * nI t + nI k = nI (8 * t + k) := by
  rw [show (8 : Int32) * nI t = nI (8 * t) from pk_mul 8 t, nI_add]
theorem i80 (t : Nat) : (8 : Int32) * nI t = nI (8 * t) := pk_mul 8 t
theorem i8c (t : Nat) : nI (8 * t) + 1 = nI (8 * t + 1) := nI_add (8 * t) 1
theorem i8d (t : Nat) : nI (8 * t) + 2 = nI (8 * t + 2) := nI_add (8 * t) 2
theorem w9 (F : Nat → Nat → Int32) (f g : Nat → Int32) : va_up (va_up F 9 f) 10 g 9 = f := by rw [vu_ne _ _ (show ¬ 9 = 10 by omega), vu_at]
theorem w10 (F : Nat → Nat → Int32) (f g : Nat → Int32) : va_up (va_up F 9 f) 10 g 10 = g := vu_at _ _ _
theorem w10i (F : Nat → Nat → Int32) (f : Nat → Int32) : va_up (va_up F 9 f) 10 (F 10) = va_up F 9 f := by
  rw [show F 10 = va_up F 9 f 10 from (vu_ne _ _ (show ¬ 10 = 9 by omega)).symm, vu_id]
theorem w9i (F : Nat → Nat → Int32) (g : Nat → Int32) : va_up (va_up F 9 (F 9)) 10 g = va_up F 10 g := by rw [vu_id]
/-- a change of one tally and of the reference's two rows only -/
theorem INV_tally {t : Nat} {T : sg_S} {f g : Nat → Int32} (ht : t < 3) (hI : INV P S) (h1 : ∀ s, s < 3 → ¬ s = t → f s = (S 16).2 9 s ∧ ∀ i, i < 8 → g (8 * s + i) = (S 16).2 10 (8 * s + i)) (h2 : okR T f g t) : INV P (va_up (va_up S (13 + t) T) 16 ((S 16).1, va_up (va_up (S 16).2 9 f) 10 g)) := by
  obtain ⟨n, m, c, ⟨a1, a2, a3⟩, ⟨x, u, b1, b2, b3⟩, hK, hT, hX, hZ⟩ := hI
  have e16 : va_up (va_up S (13 + t) T) 16 ((S 16).1, va_up (va_up (S 16).2 9 f) 10 g) 16 = ((S 16).1, va_up (va_up (S 16).2 9 f) 10 g) := vu_at _ _ _
  have ej : ∀ j, ¬ j = 16 → ¬ j = 13 + t → va_up (va_up S (13 + t) T) 16 ((S 16).1, va_up (va_up (S 16).2 9 f) 10 g) j = S j := fun j q1 q2 => by rw [vu_ne _ _ q1, vu_ne _ _ q2]
  refine ⟨n, m, c, ⟨a1, ?_, ?_⟩, ⟨x, u, b1, ?_, fun i hi => ?_⟩, fun k hk => ?_, fun s hs => ?_, ?_, fun j hj => ?_⟩
  · rw [e16]; exact a2
  · rw [e16, ej 0 (by omega) (by omega)]; exact a3
  · rw [e16]; exact b2
  · rw [e16, ej _ (by omega) (by omega)]; exact b3 i hi
  · rw [e16, ej _ (by omega) (by omega)]; exact hK k hk
  · rw [e16]
    by_cases q : s = t
    · subst q
      rw [vu_ne _ _ (by omega), vu_at]
      show okR T (va_up (va_up (S 16).2 9 f) 10 g 9) (va_up (va_up (S 16).2 9 f) 10 g 10) s
      rw [w9, w10]
      exact h2
    · rw [ej _ (by omega) (by omega)]
      obtain ⟨g1, g2⟩ := h1 s hs q
      rcases hT s hs with ⟨c1, c2, c3⟩ | ⟨c1, k, c2, c3, c4, c5⟩
      · refine Or.inl ⟨c1, c2, ?_⟩
        show va_up (va_up (S 16).2 9 f) 10 g 9 s = -1
        rw [vu_ne _ _ (by omega), vu_at, g1]; exact c3
      · refine Or.inr ⟨c1, k, c2, c3, ?_, fun i hi => ⟨?_, (c5 i hi).2⟩⟩
        · show va_up (va_up (S 16).2 9 f) 10 g 9 s = nI k
          rw [vu_ne _ _ (by omega), vu_at, g1]; exact c4
        · show (S (13 + s)).2 0 i = va_up (va_up (S 16).2 9 f) 10 g 10 (8 * s + i)
          rw [vu_at, g2 i (by omega)]; exact (c5 i hi).1
  · unfold iX
    rw [e16, ej 12 (by omega) (by omega)]; exact hX
  · rw [ej j (by omega) (by omega)]; exact hZ j hj
theorem both_pop (hI : INV P S) {a : Int32} : both L xs P S m_X4_pop m_X5_pop [.int a] := by
  cases ht : isIn 3 a
  · refine both_same hI (x := -2) ?_ (fun h hc => ?_)
    · refine en_X4_pop k_0 rfl rfl (ch_X4_pop_0 ⟨_, _, ok_isTallyC, ?_⟩)
      rw [if_pos (nI_no ht)]; (first | exact ⟨fit_i _, rfl, rfl⟩ | exact ⟨fit_i _, rfl, trivial⟩ | exact ⟨fit_i _, trivial, rfl⟩ | exact ⟨fit_i _, trivial, trivial⟩)
    · refine en_X5_pop (cD hc) rfl rfl (ch_X5_pop_0 ⟨_, _, ok_isTallyD, ?_⟩)
      rw [if_pos (nI_no ht)]; (first | exact ⟨fit_i _, rfl, rfl⟩ | exact ⟨fit_i _, rfl, trivial⟩ | exact ⟨fit_i _, trivial, rfl⟩ | exact ⟨fit_i _, trivial, trivial⟩)
  · obtain ⟨t, ht3, rfl⟩ := isIn_val (by omega) ht
    obtain ⟨n, m, c, g1, g2, g3, hT, g4⟩ := id hI
    rcases hT t ht3 with ⟨c1, c2, c3⟩ | ⟨c1, k, c2, c3, c4, c5⟩
    · refine both_same hI (x := -11) ?_ (fun h hc => ?_)
      · refine en_X4_pop k_0 rfl rfl (ch_X4_pop_0 ⟨_, _, ok_isTallyC, ?_⟩)
        rw [if_neg (nI_yes ht)]
        simp only [f0_6, a77 ht3, gY_2 ht3, c1, am_b_some]
        rw [if_neg (by decide)]; (first | exact ⟨fit_i _, rfl, rfl⟩ | exact ⟨fit_i _, rfl, trivial⟩ | exact ⟨fit_i _, trivial, rfl⟩ | exact ⟨fit_i _, trivial, trivial⟩)
      · refine en_X5_pop (cD hc) rfl rfl (ch_X5_pop_0 ⟨_, _, ok_isTallyD, ?_⟩)
        rw [if_neg (nI_yes ht)]
        simp only [cD hc, gD_0 hc, gD_1 hc, gD_2 hc, gD_3 hc, gD_4 hc, gD_5 hc, gD_6 hc, gD_7 hc, gD_8 hc, gD_9 hc, gD_10 hc, gD_11 hc, gD_12 hc, gD_13 hc, gD_14 hc, gD_15 hc, gD_16 hc, gD_17 hc, gD_18 hc, gD_19 hc, pD_1 hc, pD_2 hc, pD_3 hc, pD_5 hc, pD_8 hc, pD_11 hc, pD_12 hc, pD_13 hc, pD_14 hc, pD_15 hc, am_b_some, lD_9 hc ht3, c3]
        rw [if_pos (by decide +kernel), if_pos (by decide +kernel)]; (first | exact ⟨fit_i _, rfl, rfl⟩ | exact ⟨fit_i _, rfl, trivial⟩ | exact ⟨fit_i _, trivial, rfl⟩ | exact ⟨fit_i _, trivial, trivial⟩)
    · cases k with
      | zero =>
        refine both_same hI (x := -12) ?_ (fun h hc => ?_)
        · refine en_X4_pop k_0 rfl rfl (ch_X4_pop_0 ⟨_, _, ok_isTallyC, ?_⟩)
          rw [if_neg (nI_yes ht)]
          simp only [f0_6, a77 ht3, gY_2 ht3, gY_1 ht3, c1, c3, am_b_some]
          rw [if_pos trivial, if_pos (show nI 0 = 0 from rfl)]; (first | exact ⟨fit_i _, rfl, rfl⟩ | exact ⟨fit_i _, rfl, trivial⟩ | exact ⟨fit_i _, trivial, rfl⟩ | exact ⟨fit_i _, trivial, trivial⟩)
        · refine en_X5_pop (cD hc) rfl rfl (ch_X5_pop_0 ⟨_, _, ok_isTallyD, ?_⟩)
          rw [if_neg (nI_yes ht)]
          simp only [cD hc, gD_0 hc, gD_1 hc, gD_2 hc, gD_3 hc, gD_4 hc, gD_5 hc, gD_6 hc, gD_7 hc, gD_8 hc, gD_9 hc, gD_10 hc, gD_11 hc, gD_12 hc, gD_13 hc, gD_14 hc, gD_15 hc, gD_16 hc, gD_17 hc, gD_18 hc, gD_19 hc, pD_1 hc, pD_2 hc, pD_3 hc, pD_5 hc, pD_8 hc, pD_11 hc, pD_12 hc, pD_13 hc, pD_14 hc, pD_15 hc, am_b_some, lD_9 hc ht3, c4]
          rw [if_pos (by decide +kernel), if_neg (by decide +kernel)]; (first | exact ⟨fit_i _, rfl, rfl⟩ | exact ⟨fit_i _, rfl, trivial⟩ | exact ⟨fit_i _, trivial, rfl⟩ | exact ⟨fit_i _, trivial, trivial⟩)
      | succ k =>
        have hv := INV_tally (T := (upd (S (13 + t)).1 1 (nI k), (S (13 + t)).2)) (f := upd ((S 16).2 9) t (nI k)) (g := (S 16).2 10) ht3 hI (fun s hs q => ⟨upd_ne _ _ q, fun _ _ => rfl⟩) (Or.inr ⟨c1, k, by omega, rfl, upd_at _ _ _, fun i hi => ⟨(c5 i (by omega)).1, (c5 i (by omega)).2⟩⟩)
        refine both_of (x := 50000 + (S (13 + t)).2 0 k) hv (vu_ne _ _ (by omega)) ?_ (fun h hc => ?_)
        · refine en_X4_pop k_0 HP_12 HP_22 (ch_X4_pop_0 ⟨_, _, ok_isTallyC, ?_⟩)
          rw [if_neg (nI_yes ht)]
          simp only [f0_6, a77 ht3, gY_2 ht3, gY_1 ht3, c1, c3, am_b_some]
          rw [if_pos trivial, if_neg (nI_ne0 (by omega) (by omega))]
          exact ⟨_, _, onY ht3 (ok_takeLast (bY ht3) c3 c2), fit_i _, rfl, rfl⟩
        · refine en_X5_pop (cD hc) rfl rfl (ch_X5_pop_0 ⟨_, _, ok_isTallyD, ?_⟩)
          rw [if_neg (nI_yes ht)]
          simp only [cD hc, gD_0 hc, gD_1 hc, gD_2 hc, gD_3 hc, gD_4 hc, gD_5 hc, gD_6 hc, gD_7 hc, gD_8 hc, gD_9 hc, gD_10 hc, gD_11 hc, gD_12 hc, gD_13 hc, gD_14 hc, gD_15 hc, gD_16 hc, gD_17 hc, gD_18 hc, gD_19 hc, pD_1 hc, pD_2 hc, pD_3 hc, pD_5 hc, pD_8 hc, pD_11 hc, pD_12 hc, pD_13 hc, pD_14 hc, pD_15 hc, am_b_some, lD_9 hc ht3, sD_9 hc ht3, c4]
          rw [if_neg (show ¬ nI (k + 1) < 1 from nI_nlt (a := k + 1) (b := 1) (by omega) (by omega))]
          simp only [cD hc, gD_0 hc, gD_1 hc, gD_2 hc, gD_3 hc, gD_4 hc, gD_5 hc, gD_6 hc, gD_7 hc, gD_8 hc, gD_9 hc, gD_10 hc, gD_11 hc, gD_12 hc, gD_13 hc, gD_14 hc, gD_15 hc, gD_16 hc, gD_17 hc, gD_18 hc, gD_19 hc, pD_1 hc, pD_2 hc, pD_3 hc, pD_5 hc, pD_8 hc, pD_11 hc, pD_12 hc, pD_13 hc, pD_14 hc, pD_15 hc, am_b_some, lD_9 hc ht3, vu_at, upd_at, nI_m1, i8, lD_10 hc (show 8 * t + k < 24 by omega)]
          refine ⟨fit_i _, ?_, ?_⟩
          · rw [vu_ne _ _ (by omega), (c5 k (by omega)).1, Int32.add_comm]
          · refine congrArg (fun z => ob sgD h 98 ((S 16).1, z)) ?_
            exact (w10i _ _).symm
end BT
