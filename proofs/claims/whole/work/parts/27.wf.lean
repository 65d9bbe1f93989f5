/-! WHAT HOLDS OF A MESH; A CYCLE KEEPS IT; FRAMES OF BOTH -/
def wfL (K : Nat → Int32) (n : Nat) : Prop := TZ K ∧ (∀ v, v < 8 → sm (K v)) ∧ (∀ u v, u < 8 → v < 8 → bt (K u) v = bt (K v) u) ∧ (∀ v, v < 8 → bt (K v) v = false) ∧ ∀ u v, u < 8 → v < 8 → bt (K u) v = true → u < n ∧ v < n
def wfH (H : Nat → Int32) (m : Nat) : Prop := TZ H ∧ ∀ v, v < 8 → ∀ s, s < 32 → bt (H v) s = true → s < m
def wfS (M : sg_S) (n m c : Nat) : Prop := (M.1 0 = nI n ∧ M.1 1 = nI m ∧ M.1 2 = nI c) ∧ lotOk (M.1 3) ∧ (M.1 4 = 0 ∨ M.1 4 = 1) ∧ TZ (M.2 5) ∧ (TZ (M.2 6) ∧ shOk (M.2 6)) ∧ wfL (M.2 7) n ∧ wfH (M.2 8) m
def dims (n m c : Nat) : Prop := (2 ≤ n ∧ n ≤ 8) ∧ (1 ≤ m ∧ m ≤ 4) ∧ 1 ≤ c ∧ c ≤ 5
theorem wfH_sm {H : Nat → Int32} {m : Nat} (h : wfH H m) (hm : m ≤ 4) {v : Nat} (hv : v < 8) : sm (H v) := fun i h1 h2 => by
  cases e : bt (H v) i
  · rfl
  · have := h.2 v hv i h2 e; omega
theorem seF_H {K f : Nat → Int32} {n t m : Nat} {an lot : Int32} {s : Nat} {p : (Nat → Int32) × Int32} (hs : s < 8) (ht : t < m) (hm : m ≤ 4) (h : wfH p.1 m) : wfH (seF K n t an f lot s p).1 m := by
  refine ⟨seF_TZ hs h.1, fun v hv i hi hb => ?_⟩
  unfold seF at hb
  split at hb
  · by_cases e : v = s
    · subst e
      simp only [upd_at] at hb
      rw [b_or, bt_one (by omega) hi, Bool.or_eq_true] at hb
      rcases hb with z | z
      · exact h.2 v hv i hi z
      · have := of_decide_eq_true z; omega
    · simp only [upd_ne _ _ e] at hb
      exact h.2 v hv i hi hb
  · exact h.2 v hv i hi hb
theorem seI_H {K f : Nat → Int32} {n t m : Nat} {an lot : Int32} {p : (Nat → Int32) × Int32} (ht : t < m) (hm : m ≤ 4) (h : wfH p.1 m) : ∀ {i : Nat}, i ≤ 8 → wfH (seI K n t an f lot p i).1 m := by
  intro i
  induction i with
  | zero => intro _; exact h
  | succ i ih => intro hi; exact seF_H (by omega) ht hm (ih (by omega))
theorem seO_H {K f H : Nat → Int32} {n t m : Nat} {an : Int32} (h8 : n ≤ 8) (ht : t < m) (hm : m ≤ 4) (h : wfH H m) : ∀ j, wfH (seO K n t an f H j).1 m := by
  intro j
  induction j with
  | zero => exact h
  | succ j ih => exact seI_H ht hm ih h8
theorem wf_cy {M : sg_S} {n m c t : Nat} (hd : dims n m c) (ht : t < m) (h : wfS M n m c) : wfS (cyM M n t) n m c := by
  obtain ⟨⟨a0, a1, a2⟩, a3, a4, a5, ⟨a6, a6'⟩, a7, a8⟩ := h
  obtain ⟨⟨d1, d2⟩, ⟨d3, d4⟩, d5, d6⟩ := hd
  refine ⟨⟨a0, a1, a2⟩, ?_, Or.inr rfl, a5, ⟨shL_TZ a6 d2, shL_ok a6' d2⟩, a7, seO_H d2 ht d4 a8 8⟩
  show lotOk (cyD M n t).2
  unfold cyD
  rw [drL_2]
  exact lotOk_drl (lotOk_askL a3 n) n
/-- a block of the reference's row is a mesh of the class -/
def bOf (M D : sg_S) (k : Nat → Int32) : Prop := mOf M D k ∧ k 30 = M.1 4 ∧ (M.1 4 = 1 → ∀ p, p < 5 → k (25 + p) = M.2 9 p)
theorem bOf_cy {M D : sg_S} {k g : Nat → Int32} {n m c t : Nat} (hd : dims n m c) (h : wfS M n m c) (hb : mOf M D k) : bOf (cyM M n t) (D.1, va_up D.2 18 g) (cyB M k n t) := by
  obtain ⟨⟨a0, a1, a2⟩, a3, a4, a5, ⟨a6, a6'⟩, a7, a8⟩ := h
  obtain ⟨⟨d1, d2⟩, ⟨d3, d4⟩, d5, d6⟩ := hd
  obtain ⟨⟨e5, e6, e7, e8⟩, e3⟩ := hb
  have hS : TZ (cyS M n t).1 := seO_TZ d2 a8.1 8
  have hF : TZ (shL (M.2 7) n (cyA M n t).1 (cyS M n t).2 (M.2 6) n) := shL_TZ a6 d2
  have up : ∀ (k' : Nat → Int32) (a : Nat), a + 8 ≤ 25 → seg (upd (upd (upd (upd (upd (upd k' 25 (cyA M n t).1) 26 (cyR M n t)) 27 (cyF M n t)) 28 (cyN M n t)) 29 (cyS M n t).2) 30 1) a = seg k' a := by
    intro k' a ha
    rw [seg_ne _ _ _ _ (by omega), seg_ne _ _ _ _ (by omega), seg_ne _ _ _ _ (by omega), seg_ne _ _ _ _ (by omega), seg_ne _ _ _ _ (by omega), seg_ne _ _ _ _ (by omega)]
  refine ⟨⟨⟨e5, ?_, ?_, ?_⟩, ?_⟩, rfl, fun _ p hp => ?_⟩
  · unfold cyB
    rw [up _ _ (by omega), seg_put hF]
    rfl
  · unfold cyB
    rw [up _ _ (by omega), seg_put_ne (by omega), seg_put_ne (by omega), seg_ne _ _ _ _ (by omega)]
    exact e7
  · unfold cyB
    rw [up _ _ (by omega), seg_put_ne (by omega), seg_put hS]
    rfl
  · rfl
  · have hp' : p = 0 ∨ p = 1 ∨ p = 2 ∨ p = 3 ∨ p = 4 := by omega
    rcases hp' with rfl | rfl | rfl | rfl | rfl <;> rfl
theorem frN_wf {M : sg_S} {n m c : Nat} (hd : dims n m c) (h : wfS M n m c) : ∀ i, i ≤ m * c → wfS (frN M n c i) n m c := by
  intro i
  induction i with
  | zero => intro _; exact h
  | succ i ih =>
    intro hi
    have hc := hd.2.2.1
    exact wf_cy hd (by rw [Nat.div_lt_iff_lt_mul (by omega)]; omega) (ih (by omega))
/-- the blocks of a frame -/
def frB (M : sg_S) (k : Nat → Int32) (n c : Nat) : Nat → (Nat → Int32)
  | 0 => k
  | i + 1 => cyB (frN M n c i) (frB M k n c i) n (i / c)
section W7
variable {L : Nat} {xs : Nat → Int32} {h : am_H} {b c B n m q s t : Nat} {D M : sg_S} {k : Nat → Int32}
theorem ok_cycleM (hb : b + 6 < h.1) (hd : dims n m q) (hw : wfS M n m q) (ht : t < m) : am_ok L xs m_X0_runCycle [.ref b, .int (nI t)] (ob sgM h b M) none (ob sgM h b (cyM M n t)) :=
  ok_runCycle hb hw.1.1 hd.1.2 hw.2.2.2.2.2.1.2.1 (fun _ hv => wfH_sm hw.2.2.2.2.2.2 hd.2.1.2 hv) (by have := hd.2.1.2; omega)
theorem ok_frameM (hb : b + 6 < h.1) (hd : dims n m q) (hw : wfS M n m q) : am_ok L xs m_X0_runFrame [.ref b] (ob sgM h b M) none (ob sgM h b (frN M n q (m * q))) := by
  refine ok_runFrame hb hw.1.2.1 hd.2.1.2 hw.1.2.2 hd.2.2.1 hd.2.2.2 (fun i hi => ?_) (fun i hi => ?_)
  · exact ok_cycleM hb hd (frN_wf hd hw i (by omega)) (by have := hd.2.2.1; rw [Nat.div_lt_iff_lt_mul (by omega)]; exact hi)
  · have w := frN_wf hd hw i hi
    exact ⟨w.1.2.1.trans hw.1.2.1.symm, w.1.2.2.trans hw.1.2.2.symm⟩
theorem ok_cycleD (hc : c + 10 < h.1) (hB : B + 31 ≤ 372) (hn : D.1 1 = nI n) (hd : dims n m q) (hw : wfS M n m q) (hM : mOf M D k) (ht : t < m) : am_ok L xs m_X5_cycleOf [.ref c, .int (nI B), .int (nI t)] (ob sgD h c (dB D B k)) none (ob sgD h c (dB (D.1, va_up D.2 18 (drL (cyF M n t) 0 (cyA M n t).2 (D.2 18) n).1) B (cyB M k n t))) :=
  ok_cycleOf hc hB hn hd.1.2 hM hw.2.2.2.2.2.1.2.1 hw.2.2.2.2.1.2 hw.2.1 (by have := hd.2.1.2; omega)
theorem ok_frameD (hc : c + 10 < h.1) (hB : B + 31 ≤ 372) (hn : D.1 1 = nI n ∧ D.1 2 = nI m ∧ D.1 3 = nI q) (hd : dims n m q) (hw : wfS M n m q) (hM : mOf M D k) : ∃ g, am_ok L xs m_X5_frameOf [.ref c, .int (nI B)] (ob sgD h c (dB D B k)) none (ob sgD h c (dB (D.1, va_up D.2 18 g) B (frB M k n q (m * q)))) ∧ mOf (frN M n q (m * q)) (D.1, va_up D.2 18 g) (frB M k n q (m * q)) := by
  -- the lots' row of the reference, cycle by cycle
  have hlots : ∀ i, i ≤ m * q → ∃ g, mOf (frN M n q i) (D.1, va_up D.2 18 g) (frB M k n q i) ∧ ∀ (R : Option Int32) (A E : am_H), am_wa L xs m_X5_frameOf A R E 2 [.ref c, .int (nI B), .int (nI i)] [] (ob sgD h c (dB (D.1, va_up D.2 18 g) B (frB M k n q i))) → am_wa L xs m_X5_frameOf A R E 2 [.ref c, .int (nI B), .int (nI 0)] [] (ob sgD h c (dB D B k)) := by
    intro i
    induction i with
    | zero =>
      intro _
      refine ⟨D.2 18, ?_, fun R A E hw => ?_⟩
      · rw [vu_id]; exact hM
      · rw [vu_id] at hw; exact hw
    | succ i ih =>
      intro hi
      obtain ⟨g, g1, g2⟩ := ih (by omega)
      have hq := hd.2.2.1
      have hti : i / q < m := by rw [Nat.div_lt_iff_lt_mul (by omega)]; omega
      have w := frN_wf hd hw i (by omega)
      have call := ok_cycleD (L := L) (xs := xs) (h := h) (D := (D.1, va_up D.2 18 g)) (t := i / q) hc hB hn.1 hd w g1 hti
      simp only [vu_at, vu_vu] at call
      refine ⟨_, (bOf_cy (t := i / q) (g := (drL (cyF (frN M n q i) n (i / q)) 0 (cyA (frN M n q i) n (i / q)).2 g n).1) hd w g1).1, fun R A E hwa => g2 R A E ?_⟩
      refine ch_X5_frameOf_2 ?_
      have hmq : m * q ≤ 20 := by
        have := Nat.mul_le_mul hd.2.1.2 hd.2.2.2
        omega
      simp only [cD hc, gD_0 hc, gD_1 hc, gD_2 hc, gD_3 hc, gD_4 hc, gD_5 hc, gD_6 hc, gD_7 hc, gD_8 hc, gD_9 hc, gD_10 hc, gD_11 hc, gD_12 hc, gD_13 hc, gD_14 hc, gD_15 hc, gD_16 hc, gD_17 hc, gD_18 hc, gD_19 hc, pD_1 hc, pD_2 hc, pD_3 hc, pD_5 hc, pD_8 hc, pD_11 hc, pD_12 hc, pD_13 hc, pD_14 hc, pD_15 hc, dB_1, am_b_some, hn.2.1, hn.2.2, pk_mul]
      rw [if_pos (nI_lt (by omega) (by omega)), pk_div (by omega) (by omega) (by have := hd.2.2.2; omega)]
      refine ⟨nI_ne0 (by omega) (by have := hd.2.2.2; omega), _, call, ?_⟩
      rw [← nI_succ]
      exact hwa
  obtain ⟨g, g1, g2⟩ := hlots (m * q) (Nat.le_refl _)
  refine ⟨g, ?_, g1⟩
  refine en_X5_frameOf (cD hc) rfl rfl (ch_X5_frameOf_0 (g2 _ _ _ ?_))
  refine ch_X5_frameOf_2 ?_
  simp only [cD hc, gD_0 hc, gD_1 hc, gD_2 hc, gD_3 hc, gD_4 hc, gD_5 hc, gD_6 hc, gD_7 hc, gD_8 hc, gD_9 hc, gD_10 hc, gD_11 hc, gD_12 hc, gD_13 hc, gD_14 hc, gD_15 hc, gD_16 hc, gD_17 hc, gD_18 hc, gD_19 hc, pD_1 hc, pD_2 hc, pD_3 hc, pD_5 hc, pD_8 hc, pD_11 hc, pD_12 hc, pD_13 hc, pD_14 hc, pD_15 hc, dB_1, am_b_some, hn.2.1, hn.2.2, pk_mul]
  rw [if_neg (nI_irr _)]
  (first | exact ⟨rfl, rfl⟩ | exact ⟨rfl, trivial⟩ | exact ⟨trivial, rfl⟩ | exact ⟨trivial, trivial⟩ | exact trivial)
/-- behind a frame the block is the mesh, phases and all -/
theorem bOf_fr {g : Nat → Int32} (hd : dims n m q) (hw : wfS M n m q) (hM : mOf M D k) : bOf (frN M n q (m * q)) (D.1, va_up D.2 18 g) (frB M k n q (m * q)) := by
  have hmq : 0 < m * q := Nat.mul_pos (by have := hd.2.1.1; omega) (by have := hd.2.2.1; omega)
  obtain ⟨p, hp⟩ : ∃ p, m * q = p + 1 := ⟨m * q - 1, by omega⟩
  have main : ∀ i, i ≤ m * q → mOf (frN M n q i) D (frB M k n q i) := by
    intro i
    induction i with
    | zero => intro _; exact hM
    | succ i ih =>
      intro hi
      have := (bOf_cy (t := i / q) (g := D.2 18) hd (frN_wf hd hw i (by omega)) (ih (by omega))).1
      rwa [vu_id] at this
  rw [hp]
  exact bOf_cy (t := p / q) hd (frN_wf hd hw p (by omega)) (main p (by omega))
end W7
