/-! TALLY: the class's -/
def tsum (f : Nat → Int32) : Nat → Int32
  | 0 => 0
  | i + 1 => tsum f i + f i
def tgr (f : Nat → Int32) : Nat → Int32
  | 0 => f 0
  | j + 1 => if tgr f j < f (j + 1) then f (j + 1) else tgr f j
def tle (f : Nat → Int32) : Nat → Int32
  | 0 => f 0
  | j + 1 => if f (j + 1) < tle f j then f (j + 1) else tle f j
def tsw (f : Nat → Int32) : Nat → Int32
  | 0 => 0
  | i + 1 => if i % 2 = 0 then tsw f i + ((nI i + 1) * f i) else tsw f i + ((-(nI i + 1)) * f i)
def fillG (k : Nat) (g f : Nat → Int32) : Nat → Int32 := fun i => if i < k then g i else f i
theorem fillG_0 (g f : Nat → Int32) : fillG 0 g f = f := by funext i; simp [fillG]
theorem fillG_s (k : Nat) (g f : Nat → Int32) : upd (fillG k g f) k (g k) = fillG (k + 1) g f := by
  funext i
  unfold upd fillG
  by_cases e : i = k
  · simp [e]
  · by_cases e2 : i < k
    · simp [e, e2, show i < k + 1 by omega]
    · simp [e, e2, show ¬ i < k + 1 by omega]
theorem fillG_at (k : Nat) (g f : Nat → Int32) : fillG k g f k = f k := by simp [fillG]
def heldF (a : Int32) : Int32 := if (-999 : Int32) < (if a < 999 then a else 999) then (if a < 999 then a else 999) else -999
theorem nI_mod2 {i : Nat} (hi : i < 2 ^ 31) : (nI i - nI i / 2 * 2 = 0) ↔ i % 2 = 0 := by
  have e : nI i - nI i / nI 2 * nI 2 = nI (i % 2) := pk_rem hi (by omega) (by omega)
  have e2 : nI i - nI i / 2 * 2 = nI (i % 2) := e
  rw [e2, ← nI_0, nI_eq (by omega) (by omega)]
theorem nI_m1 {k : Nat} : nI (k + 1) - 1 = nI k := nI_pred k
section TA
variable {L : Nat} {xs : Nat → Int32} {h : am_H} {b c k : Nat} {T U : sg_S}
theorem ok_held {a : Int32} : am_ok L xs m_X2_held [.int a] h (some (heldF a)) h := en_X2_held rfl rfl (ch_X2_held_0 ⟨fit_i _, rfl, rfl⟩)
theorem ok_lose (hb : b + 1 < h.1) : am_ok L xs m_X2_lose [.ref b] (ob sgT h b T) none (ob sgT h b (upd (upd T.1 2 1) 1 0, T.2)) := by
  refine en_X2_lose (cT hb) rfl rfl (ch_X2_lose_0 ⟨Or.inr rfl, ?_⟩)
  simp only [cT hb, gT_0 hb, gT_1 hb, gT_2 hb, pT_1 hb, pT_2 hb, am_b_some]
  (first | exact ⟨rfl, rfl⟩ | exact ⟨rfl, trivial⟩ | exact ⟨trivial, rfl⟩ | exact ⟨trivial, trivial⟩ | exact trivial)
theorem ok_beginT (hb : b + 1 < h.1) {s x y z : Int32} : am_ok L xs m_X2_begin [.ref b, .int s, .int x, .int y, .int z] (ob sgT h b T) none (ob sgT h b (upd (upd T.1 2 0) 1 s, va_up T.2 0 (upd (upd (upd (T.2 0) 0 x) 1 y) 2 z))) := by
  refine en_X2_begin (cT hb) rfl rfl (ch_X2_begin_0 ⟨Or.inl rfl, ?_⟩)
  have s0 : ∀ {S : sg_S} {x : Int32}, am_sI (ob sgT h b S) .int (b + 1) 0 x = some (ob sgT h b (S.1, va_up S.2 0 (upd (S.2 0) 0 x))) := fun {S x} => sT_0 (i := 0) hb (by omega)
  have s1 : ∀ {S : sg_S} {x : Int32}, am_sI (ob sgT h b S) .int (b + 1) 1 x = some (ob sgT h b (S.1, va_up S.2 0 (upd (S.2 0) 1 x))) := fun {S x} => sT_0 (i := 1) hb (by omega)
  have s2 : ∀ {S : sg_S} {x : Int32}, am_sI (ob sgT h b S) .int (b + 1) 2 x = some (ob sgT h b (S.1, va_up S.2 0 (upd (S.2 0) 2 x))) := fun {S x} => sT_0 (i := 2) hb (by omega)
  simp only [cT hb, gT_0 hb, gT_1 hb, gT_2 hb, pT_1 hb, pT_2 hb, am_b_some, s0, s1, s2, vu_vu, vu_at]
  (first | exact ⟨rfl, rfl⟩ | exact ⟨rfl, trivial⟩ | exact ⟨trivial, rfl⟩ | exact ⟨trivial, trivial⟩ | exact trivial)
theorem ok_sum (hb : b + 1 < h.1) (hk : T.1 1 = nI k) (h8 : k ≤ 8) : am_ok L xs m_X2_sum [.ref b] (ob sgT h b T) (some (tsum (T.2 0) k)) (ob sgT h b T) := by
  refine en_X2_sum (cT hb) rfl rfl (ch_X2_sum_0 ?_)
  have key := up_to (P := fun i => am_wa L xs m_X2_sum (ob sgT h b T) (some (tsum (T.2 0) k)) (ob sgT h b T) 4 [.ref b, .int (tsum (T.2 0) i), .int (nI i)] [] (ob sgT h b T)) k ?_ ?_ 0 (by omega)
  · exact key
  · refine ch_X2_sum_4 ?_
    simp only [cT hb, gT_0 hb, gT_1 hb, gT_2 hb, pT_1 hb, pT_2 hb, am_b_some, hk]
    rw [if_neg (nI_irr k)]
    (first | exact ⟨fit_i _, rfl, rfl⟩ | exact ⟨fit_i _, rfl, trivial⟩ | exact ⟨fit_i _, trivial, rfl⟩ | exact ⟨fit_i _, trivial, trivial⟩)
  · intro i hi ih
    have hi8 : i < 8 := by omega
    refine ch_X2_sum_4 ?_
    simp only [cT hb, gT_0 hb, gT_1 hb, gT_2 hb, pT_1 hb, pT_2 hb, lT_0 hb hi8, sT_0 hb hi8, am_b_some, hk]
    rw [if_pos (nI_lt hi (by omega)), ← nI_succ]
    exact ih
theorem ok_greatest (hb : b + 1 < h.1) (hk : T.1 1 = nI (k + 1)) (h8 : k + 1 ≤ 8) : am_ok L xs m_X2_greatest [.ref b] (ob sgT h b T) (some (tgr (T.2 0) k)) (ob sgT h b T) := by
  have l0 : am_lI (ob sgT h b T) .int (b + 1) 0 = some (T.2 0 0) := lT_0 (i := 0) hb (by omega)
  refine en_X2_greatest (cT hb) rfl rfl (ch_X2_greatest_0 ?_)
  simp only [cT hb, gT_0 hb, gT_1 hb, gT_2 hb, pT_1 hb, pT_2 hb, am_b_some, l0]
  have key := up_to (P := fun j => am_wa L xs m_X2_greatest (ob sgT h b T) (some (tgr (T.2 0) k)) (ob sgT h b T) 9 [.ref b, .int (tgr (T.2 0) j), .int (nI (j + 1))] [] (ob sgT h b T)) k ?_ ?_ 0 (by omega)
  · exact key
  · refine ch_X2_greatest_9 ?_
    simp only [cT hb, gT_0 hb, gT_1 hb, gT_2 hb, pT_1 hb, pT_2 hb, am_b_some, hk]
    rw [if_neg (nI_irr (k + 1))]
    (first | exact ⟨fit_i _, rfl, rfl⟩ | exact ⟨fit_i _, rfl, trivial⟩ | exact ⟨fit_i _, trivial, rfl⟩ | exact ⟨fit_i _, trivial, trivial⟩)
  · intro j hj ih
    have hi8 : j + 1 < 8 := by omega
    refine ch_X2_greatest_9 ?_
    simp only [cT hb, gT_0 hb, gT_1 hb, gT_2 hb, pT_1 hb, pT_2 hb, lT_0 hb hi8, sT_0 hb hi8, am_b_some, hk]
    rw [if_pos (nI_lt (show j + 1 < k + 1 by omega) (by omega)), ← nI_succ (j + 1)]
    exact ih
theorem ok_least (hb : b + 1 < h.1) (hk : T.1 1 = nI (k + 1)) (h8 : k + 1 ≤ 8) : am_ok L xs m_X2_least [.ref b] (ob sgT h b T) (some (tle (T.2 0) k)) (ob sgT h b T) := by
  have l0 : am_lI (ob sgT h b T) .int (b + 1) 0 = some (T.2 0 0) := lT_0 (i := 0) hb (by omega)
  refine en_X2_least (cT hb) rfl rfl (ch_X2_least_0 ?_)
  simp only [cT hb, gT_0 hb, gT_1 hb, gT_2 hb, pT_1 hb, pT_2 hb, am_b_some, l0]
  have key := up_to (P := fun j => am_wa L xs m_X2_least (ob sgT h b T) (some (tle (T.2 0) k)) (ob sgT h b T) 9 [.ref b, .int (tle (T.2 0) j), .int (nI (j + 1))] [] (ob sgT h b T)) k ?_ ?_ 0 (by omega)
  · exact key
  · refine ch_X2_least_9 ?_
    simp only [cT hb, gT_0 hb, gT_1 hb, gT_2 hb, pT_1 hb, pT_2 hb, am_b_some, hk]
    rw [if_neg (nI_irr (k + 1))]
    (first | exact ⟨fit_i _, rfl, rfl⟩ | exact ⟨fit_i _, rfl, trivial⟩ | exact ⟨fit_i _, trivial, rfl⟩ | exact ⟨fit_i _, trivial, trivial⟩)
  · intro j hj ih
    have hi8 : j + 1 < 8 := by omega
    refine ch_X2_least_9 ?_
    simp only [cT hb, gT_0 hb, gT_1 hb, gT_2 hb, pT_1 hb, pT_2 hb, lT_0 hb hi8, sT_0 hb hi8, am_b_some, hk]
    rw [if_pos (nI_lt (show j + 1 < k + 1 by omega) (by omega)), ← nI_succ (j + 1)]
    exact ih
theorem ok_swing (hb : b + 1 < h.1) (hk : T.1 1 = nI k) (h8 : k ≤ 8) : am_ok L xs m_X2_swing [.ref b] (ob sgT h b T) (some (tsw (T.2 0) k)) (ob sgT h b T) := by
  refine en_X2_swing (cT hb) rfl rfl (ch_X2_swing_0 ?_)
  have key := up_to (P := fun i => am_wa L xs m_X2_swing (ob sgT h b T) (some (tsw (T.2 0) k)) (ob sgT h b T) 4 [.ref b, .int (tsw (T.2 0) i), .int (nI i), .null] [] (ob sgT h b T)) k ?_ ?_ 0 (by omega)
  · exact key
  · refine ch_X2_swing_4 ?_
    simp only [cT hb, gT_0 hb, gT_1 hb, gT_2 hb, pT_1 hb, pT_2 hb, am_b_some, hk]
    rw [if_neg (nI_irr k)]
    (first | exact ⟨fit_i _, rfl, rfl⟩ | exact ⟨fit_i _, rfl, trivial⟩ | exact ⟨fit_i _, trivial, rfl⟩ | exact ⟨fit_i _, trivial, trivial⟩)
  · intro i hi ih
    have hi8 : i < 8 := by omega
    refine ch_X2_swing_4 ?_
    simp only [cT hb, gT_0 hb, gT_1 hb, gT_2 hb, pT_1 hb, pT_2 hb, lT_0 hb hi8, sT_0 hb hi8, am_b_some, hk]
    rw [if_pos (nI_lt hi (by omega))]
    refine ⟨by decide +kernel, br2 (fun c => ?_) (fun c => ?_)⟩
    · rw [nI_mod2 (by omega)] at c
      simp only [tsw, if_pos c] at ih
      rw [nI_succ i] at ih
      exact ih
    · rw [nI_mod2 (by omega)] at c
      simp only [tsw, if_neg c] at ih
      rw [nI_succ i] at ih
      exact ih
theorem ok_negate (hb : b + 1 < h.1) (hk : T.1 1 = nI k) (h8 : k ≤ 8) : am_ok L xs m_X2_negate [.ref b] (ob sgT h b T) none (ob sgT h b (T.1, va_up T.2 0 (fillG k (fun i => -T.2 0 i) (T.2 0)))) := by
  refine en_X2_negate (cT hb) rfl rfl (ch_X2_negate_0 ?_)
  have key := up_to (P := fun i => am_wa L xs m_X2_negate (ob sgT h b T) none (ob sgT h b (T.1, va_up T.2 0 (fillG k (fun i => -T.2 0 i) (T.2 0)))) 2 [.ref b, .int (nI i)] [] (ob sgT h b (T.1, va_up T.2 0 (fillG i (fun i => -T.2 0 i) (T.2 0))))) k ?_ ?_ 0 (by omega)
  · rw [fillG_0, vu_id] at key
    exact key
  · refine ch_X2_negate_2 ?_
    simp only [cT hb, gT_0 hb, gT_1 hb, gT_2 hb, pT_1 hb, pT_2 hb, am_b_some, hk]
    rw [if_neg (nI_irr k)]
    (first | exact ⟨rfl, rfl⟩ | exact ⟨rfl, trivial⟩ | exact ⟨trivial, rfl⟩ | exact ⟨trivial, trivial⟩ | exact trivial)
  · intro i hi ih
    have hi8 : i < 8 := by omega
    refine ch_X2_negate_2 ?_
    simp only [cT hb, gT_0 hb, gT_1 hb, gT_2 hb, pT_1 hb, pT_2 hb, lT_0 hb hi8, sT_0 hb hi8, am_b_some, hk, vu_at, vu_vu, fillG_at]
    rw [if_pos (nI_lt hi (by omega)), ← nI_succ]
    rw [← fillG_s] at ih
    exact ih
theorem ok_twice (hb : b + 1 < h.1) (hk : T.1 1 = nI k) (h8 : k ≤ 8) : am_ok L xs m_X2_twice [.ref b] (ob sgT h b T) none (ob sgT h b (T.1, va_up T.2 0 (fillG k (fun i => heldF (2 * T.2 0 i)) (T.2 0)))) := by
  refine en_X2_twice (cT hb) rfl rfl (ch_X2_twice_0 ?_)
  have key := up_to (P := fun i => am_wa L xs m_X2_twice (ob sgT h b T) none (ob sgT h b (T.1, va_up T.2 0 (fillG k (fun i => heldF (2 * T.2 0 i)) (T.2 0)))) 2 [.ref b, .int (nI i)] [] (ob sgT h b (T.1, va_up T.2 0 (fillG i (fun i => heldF (2 * T.2 0 i)) (T.2 0))))) k ?_ ?_ 0 (by omega)
  · rw [fillG_0, vu_id] at key
    exact key
  · refine ch_X2_twice_2 ?_
    simp only [cT hb, gT_0 hb, gT_1 hb, gT_2 hb, pT_1 hb, pT_2 hb, am_b_some, hk]
    rw [if_neg (nI_irr k)]
    (first | exact ⟨rfl, rfl⟩ | exact ⟨rfl, trivial⟩ | exact ⟨trivial, rfl⟩ | exact ⟨trivial, trivial⟩ | exact trivial)
  · intro i hi ih
    have hi8 : i < 8 := by omega
    refine ch_X2_twice_2 ?_
    simp only [cT hb, gT_0 hb, gT_1 hb, gT_2 hb, pT_1 hb, pT_2 hb, lT_0 hb hi8, sT_0 hb hi8, am_b_some, hk, vu_at, fillG_at]
    rw [if_pos (nI_lt hi (by omega))]
    refine ⟨_, _, ok_held, ?_⟩
    simp only [lT_0 hb hi8, sT_0 hb hi8, am_b_some, vu_at, vu_vu]
    rw [← nI_succ]
    rw [← fillG_s] at ih
    exact ih
theorem ok_sumUp (hb : b + 1 < h.1) (hk : T.1 1 = nI k) (h8 : k ≤ 8) : am_ok L xs m_X2_sumUp [.ref b] (ob sgT h b T) none (ob sgT h b (T.1, va_up T.2 0 (fillG k (fun i => heldF (tsum (T.2 0) (i + 1))) (T.2 0)))) := by
  refine en_X2_sumUp (cT hb) rfl rfl (ch_X2_sumUp_0 ?_)
  have key := up_to (P := fun i => am_wa L xs m_X2_sumUp (ob sgT h b T) none (ob sgT h b (T.1, va_up T.2 0 (fillG k (fun i => heldF (tsum (T.2 0) (i + 1))) (T.2 0)))) 4 [.ref b, .int (tsum (T.2 0) i), .int (nI i)] [] (ob sgT h b (T.1, va_up T.2 0 (fillG i (fun i => heldF (tsum (T.2 0) (i + 1))) (T.2 0))))) k ?_ ?_ 0 (by omega)
  · rw [fillG_0, vu_id] at key
    exact key
  · refine ch_X2_sumUp_4 ?_
    simp only [cT hb, gT_0 hb, gT_1 hb, gT_2 hb, pT_1 hb, pT_2 hb, am_b_some, hk]
    rw [if_neg (nI_irr k)]
    (first | exact ⟨rfl, rfl⟩ | exact ⟨rfl, trivial⟩ | exact ⟨trivial, rfl⟩ | exact ⟨trivial, trivial⟩ | exact trivial)
  · intro i hi ih
    have hi8 : i < 8 := by omega
    refine ch_X2_sumUp_4 ?_
    simp only [cT hb, gT_0 hb, gT_1 hb, gT_2 hb, pT_1 hb, pT_2 hb, lT_0 hb hi8, sT_0 hb hi8, am_b_some, hk, vu_at, fillG_at]
    rw [if_pos (nI_lt hi (by omega))]
    refine ⟨_, _, ok_held, ?_⟩
    simp only [lT_0 hb hi8, sT_0 hb hi8, am_b_some, vu_at, vu_vu]
    rw [← nI_succ]
    rw [← fillG_s] at ih
    exact ih
theorem ok_takeLast (hb : b + 1 < h.1) (hk : T.1 1 = nI (k + 1)) (h8 : k + 1 ≤ 8) : am_ok L xs m_X2_takeLast [.ref b] (ob sgT h b T) (some (T.2 0 k)) (ob sgT h b (upd T.1 1 (nI k), T.2)) := by
  have hk8 : k < 8 := by omega
  refine en_X2_takeLast (cT hb) rfl rfl (ch_X2_takeLast_0 ?_)
  simp only [cT hb, gT_0 hb, gT_1 hb, gT_2 hb, pT_1 hb, pT_2 hb, lT_0 hb hk8, sT_0 hb hk8, am_b_some, hk, nI_m1, upd_at]
  rw [if_pos (by rw [← nI_0]; exact nI_lt (by omega) (by omega))]
  (first | exact ⟨fit_i _, rfl, rfl⟩ | exact ⟨fit_i _, rfl, trivial⟩ | exact ⟨fit_i _, trivial, rfl⟩ | exact ⟨fit_i _, trivial, trivial⟩)
theorem cpk {H : am_H} {a0 a : Nat} {f f1 : Nat → Int32} {d n : Nat} (hd : d + n ≤ 8) (e0 : am_ii H a0 = some (.int, 8, f)) (e1 : am_ii H a = some (.int, 8, f1)) : am_cp H a0 0 a (nI d) (nI n) = some (am_put H a (.inl (.int, 8, .inl (va_cpy f f1 0 d n)))) := by
  unfold am_cp
  rw [e0, e1]
  simp only [cl_0, nI_clamp (show d < 2 ^ 31 by omega), nI_clamp (show n < 2 ^ 31 by omega)]
  rw [if_pos]
  exact ⟨⟨trivial, trivial⟩, by decide +kernel, nI_pos (by omega), nI_pos (by omega), by omega, hd⟩
theorem ok_addAll_self (hb : b + 1 < h.1) (hk : T.1 1 = nI k) (h8 : k + k ≤ 8) : am_ok L xs m_X2_addAll [.ref b, .ref b] (ob sgT h b T) none (ob sgT h b (upd T.1 1 (nI (k + k)), va_up T.2 0 (va_cpy (T.2 0) (T.2 0) 0 k k))) := by
  refine en_X2_addAll (cT hb) rfl rfl (ch_X2_addAll_0 ?_)
  simp only [cT hb, gT_0 hb, gT_1 hb, gT_2 hb, pT_1 hb, pT_2 hb, am_b_some, hk, nI_add]
  rw [if_neg (show ¬ (8 : Int32) < nI (k + k) from nI_nlt (a := 8) (b := k + k) h8 (by omega)), cpk h8 (iT_0 hb) (iT_0 hb), am_b_some, uT_0]
  simp only [cT hb, gT_0 hb, gT_1 hb, gT_2 hb, pT_1 hb, pT_2 hb, am_b_some, hk, nI_add]
  (first | exact ⟨rfl, rfl⟩ | exact ⟨rfl, trivial⟩ | exact ⟨trivial, rfl⟩ | exact ⟨trivial, trivial⟩ | exact trivial)
theorem ok_addAll (hb : b + 1 < h.1) (hc : c + 1 < h.1) (hd : b + 1 < c ∨ c + 1 < b) {j : Nat} (hk : T.1 1 = nI k) (hj : U.1 1 = nI j) (h8 : k + j ≤ 8) : am_ok L xs m_X2_addAll [.ref b, .ref c] (ob sgT (ob sgT h c U) b T) none (ob sgT (ob sgT h c U) b (upd T.1 1 (nI (k + j)), va_up T.2 0 (va_cpy (U.2 0) (T.2 0) 0 k j))) := by
  have hb2 : b + 1 < (ob sgT h c U).1 := hb
  have g1 : ∀ T, am_gI (ob sgT (ob sgT h c U) b T) c 2 1 = some (U.1 1) := fun T => by rw [ob_swap hd]; exact gT_1 hc
  have g0 : ∀ T, am_gR (ob sgT (ob sgT h c U) b T) c 2 0 = some (c + 1) := fun T => by rw [ob_swap hd]; exact gT_0 hc
  have i0 : am_ii (ob sgT (ob sgT h c U) b T) (c + 1) = some (.int, 8, U.2 0) := by rw [ob_swap hd]; exact iT_0 hc
  refine en_X2_addAll (cT hb2) rfl rfl (ch_X2_addAll_0 ?_)
  simp only [g0, g1, cT hb2, gT_0 hb2, gT_1 hb2, gT_2 hb2, pT_1 hb2, pT_2 hb2, am_b_some, hk, hj, nI_add]
  rw [if_neg (show ¬ (8 : Int32) < nI (k + j) from nI_nlt (a := 8) (b := k + j) h8 (by omega)), cpk h8 i0 (iT_0 hb2), am_b_some, uT_0]
  simp only [cT hb2, gT_0 hb2, gT_1 hb2, gT_2 hb2, pT_1 hb2, pT_2 hb2, am_b_some, hk, nI_add]
  (first | exact ⟨rfl, rfl⟩ | exact ⟨rfl, trivial⟩ | exact ⟨trivial, rfl⟩ | exact ⟨trivial, trivial⟩ | exact trivial)
end TA
