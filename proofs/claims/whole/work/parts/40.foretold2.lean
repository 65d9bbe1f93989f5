/-! WRITE, ERASE; FORETOLD: hops -/
theorem fb_ct_lt {p q : Nat → Bool} : ∀ {n : Nat}, (∀ k, k < n → p k = true → q k = true) → (∃ k, k < n ∧ p k = false ∧ q k = true) → fb_ct p n < fb_ct q n := by
  intro n
  induction n with
  | zero => intro _ ⟨k, hk, _⟩; omega
  | succ n ih =>
    intro h ⟨k, hk, h1, h2⟩
    rw [fb_ct_succ, fb_ct_succ]
    by_cases e : k = n
    · subst e
      have := fb_ct_sub (p := p) (q := q) (n := k) (fun j hj => h j (by omega))
      rw [h1, h2]
      simp
      omega
    · have := ih (fun j hj => h j (by omega)) ⟨k, by omega, h1, h2⟩
      cases e1 : p n
      · simp
        split <;> omega
      · rw [h n (by omega) e1]
        simp
        omega
def rc (K : Nat → Int32) (n : Nat) (x : Int32) : Nat → Int32
  | 0 => x
  | i + 1 => rc K n x i ||| hearing K n (rc K n x i) 1
def hopR (K : Nat → Int32) (n t : Nat) (x : Int32) : Nat → Nat → Int32
  | 0, _ => -1
  | f + 1, i => if bt (rc K n x i) t then nI i else hopR K n t x f (i + 1)
section HO
variable {K : Nat → Int32} {n t : Nat} {x : Int32}
theorem rc_sub (i : Nat) {b : Nat} (h : bt (rc K n x i) b = true) : bt (rc K n x (i + 1)) b = true := by
  show bt (rc K n x i ||| hearing K n (rc K n x i) 1) b = true
  rw [b_or, h]; rfl
theorem rc_lt (h8 : n ≤ 8) (hx : ∀ b, b < 32 → bt x b = true → b < n) : ∀ i b, b < 32 → bt (rc K n x i) b = true → b < n := by
  intro i
  induction i with
  | zero => exact hx
  | succ i ih =>
    intro b hb h
    have h' : bt (rc K n x i ||| hearing K n (rc K n x i) 1) b = true := h
    rw [b_or, Bool.or_eq_true] at h'
    rcases h' with z | z
    · exact ih b hb z
    · unfold hearing at z
      rw [bt_bs _ (by omega) hb, Bool.and_eq_true] at z
      exact of_decide_eq_true z.1
theorem rc_stable {j : Nat} (e : rc K n x (j + 1) = rc K n x j) : ∀ d, rc K n x (j + d) = rc K n x j := by
  intro d
  induction d with
  | zero => rfl
  | succ d ih =>
    show rc K n x (j + d) ||| hearing K n (rc K n x (j + d)) 1 = _
    rw [ih]
    exact e
theorem rc_grow (h8 : n ≤ 8) (hx : ∀ b, b < 32 → bt x b = true → b < n) (h1 : 1 ≤ pop x) : ∀ i, (∃ j, j < i ∧ rc K n x (j + 1) = rc K n x j) ∨ i + 1 ≤ pop (rc K n x i) := by
  intro i
  induction i with
  | zero => exact Or.inr h1
  | succ i ih =>
    rcases ih with ⟨j, hj, e⟩ | hp
    · exact Or.inl ⟨j, by omega, e⟩
    · by_cases e : rc K n x (i + 1) = rc K n x i
      · exact Or.inl ⟨i, by omega, e⟩
      · refine Or.inr ?_
        have hlt : fb_ct (bt (rc K n x i)) 8 < fb_ct (bt (rc K n x (i + 1))) 8 := by
          refine fb_ct_lt (fun k hk => rc_sub i) ?_
          apply Classical.byContradiction
          intro hno
          apply e
          apply b_ext
          intro b hb
          cases e1 : bt (rc K n x i) b
          · cases e2 : bt (rc K n x (i + 1)) b
            · rfl
            · exact absurd ⟨b, by have := rc_lt h8 hx (i + 1) b hb e2; omega, e1, e2⟩ hno
          · exact rc_sub i e1
        unfold pop at hp ⊢
        omega
theorem rc_end (h2 : 2 ≤ n) (h8 : n ≤ 8) (hx : ∀ b, b < 32 → bt x b = true → b < n) (h1 : 1 ≤ pop x) : ∀ j, n - 1 ≤ j → rc K n x j = rc K n x (n - 1) := by
  have hple : pop (rc K n x n) ≤ n := by
    unfold pop
    have e : fb_ct (bt (rc K n x n)) 8 = fb_ct (bt (rc K n x n)) n := by
      rw [fb_ct_sm, fb_ct_sm]
      refine fb_sm_cut h8 (fun k hk1 hk2 => ?_)
      cases e : bt (rc K n x n) k
      · rfl
      · have := rc_lt h8 hx n k (by omega) e
        omega
    rw [e]
    exact fb_ct_le _ _
  rcases rc_grow (K := K) h8 hx h1 n with ⟨j, hj, e⟩ | hp
  · have st := rc_stable e
    intro k hk
    have a1 := st (k - j)
    have a2 := st (n - 1 - j)
    rw [show j + (k - j) = k by omega] at a1
    rw [show j + (n - 1 - j) = n - 1 by omega] at a2
    rw [a1, a2]
  · omega
theorem hopR_none : ∀ f i, (∀ j, i ≤ j → bt (rc K n x j) t = false) → hopR K n t x f i = -1 := by
  intro f
  induction f with
  | zero => intro i _; rfl
  | succ f ih =>
    intro i h
    unfold hopR
    rw [h i (by omega)]
    exact ih (i + 1) (fun j hj => h j (by omega))
theorem hopR_a (b : Nat) : ∀ a i, (∃ j, i ≤ j ∧ j < i + a ∧ bt (rc K n x j) t = true) → hopR K n t x (a + b) i = hopR K n t x a i := by
  intro a
  induction a with
  | zero => intro i ⟨j, _, _, _⟩; omega
  | succ a ih =>
    intro i ⟨j, h1, h2, h3⟩
    rw [show a + 1 + b = (a + b) + 1 by omega]
    unfold hopR
    by_cases e : bt (rc K n x i) t = true
    · rw [if_pos e, if_pos e]
    · rw [if_neg e, if_neg e]
      refine ih (i + 1) ⟨j, ?_, by omega, h3⟩
      have : ¬ j = i := fun z => e (z ▸ h3)
      omega
theorem hopR_b (b : Nat) : ∀ a i, hopR K n t x b (i + a) = -1 → hopR K n t x (a + b) i = hopR K n t x a i := by
  intro a
  induction a with
  | zero => intro i h; rw [Nat.zero_add]; exact h
  | succ a ih =>
    intro i h
    rw [show a + 1 + b = (a + b) + 1 by omega]
    unfold hopR
    by_cases e : bt (rc K n x i) t = true
    · rw [if_pos e, if_pos e]
    · rw [if_neg e, if_neg e]
      exact ih (i + 1) (by rw [show i + 1 + a = i + (a + 1) by omega]; exact h)
theorem hopR_eq (h2 : 2 ≤ n) (h8 : n ≤ 8) (hx : ∀ b, b < 32 → bt x b = true → b < n) (h1 : 1 ≤ pop x) : hopR K n t x 7 1 = hopR K n t x (n - 1) 1 := by
  have e7 : 7 = (n - 1) + (8 - n) := by omega
  by_cases e : bt (rc K n x (n - 1)) t = true
  · rw [e7]
    exact hopR_a (8 - n) (n - 1) 1 ⟨n - 1, by omega, by omega, e⟩
  · rw [e7]
    refine hopR_b (8 - n) (n - 1) 1 (hopR_none _ _ (fun j hj => ?_))
    rw [rc_end h2 h8 hx h1 j (by omega)]
    simpa using e
end HO
section DI
variable {L : Nat} {xs : Nat → Int32} {P : st_P} {S : Nat → sg_S} {h : am_H} {n m c : Nat}
theorem both_hops (hI : INVn n m c P S) {a b : Int32} : both L xs P S m_X4_hops m_X5_hops [.int a, .int b] := by
  have hd := hI.1.1
  have hw := hI.1.2.2.1
  have hM := hI.1.2.2.2.1
  have h8 := hd.1.2
  cases hv : isTwo n a b
  · refine both_same ⟨n, m, c, hI⟩ (x := -2) ?_ (fun h hc => ?_)
    · refine en_X4_hops k_0 rfl rfl (ch_X4_hops_0 ?_)
      simp only [f0_0, am_b_some]
      refine ⟨_, _, cPa hI, ?_⟩
      rw [if_pos (nI_no hv)]; (first | exact ⟨fit_i _, rfl, rfl⟩ | exact ⟨fit_i _, rfl, trivial⟩ | exact ⟨fit_i _, trivial, rfl⟩ | exact ⟨fit_i _, trivial, trivial⟩)
    · refine en_X5_hops (cD hc) rfl rfl (ch_X5_hops_0 ⟨_, _, dTw hI hc, ?_⟩)
      rw [if_pos (nI_no hv)]; (first | exact ⟨fit_i _, rfl, rfl⟩ | exact ⟨fit_i _, rfl, trivial⟩ | exact ⟨fit_i _, trivial, rfl⟩ | exact ⟨fit_i _, trivial, trivial⟩)
  · obtain ⟨u, v, ⟨hu, hvn, ne⟩, rfl, rfl⟩ := two_val h8 hv
    have hu8 : u < 8 := by omega
    have hv8 : v < 8 := by omega
    generalize hX : (1 : Int32) <<< (nI u &&& 31) = X
    have hx : ∀ b, b < 32 → bt X b = true → b < n := fun b hb z => by
      rw [← hX, bt_one (by omega) hb] at z
      have := of_decide_eq_true z
      omega
    have h1 : 1 ≤ pop X := by
      have : 0 < fb_ct (bt X) 8 := fb_ct_pos.mpr ⟨u, hu8, by rw [← hX, bt_one (by omega) (by omega)]; exact decide_eq_true rfl⟩
      exact this
    have clC : ∀ f i, i + f = 8 → 1 ≤ i → am_wa L xs m_X4_hops (HP P S) (some (hopR ((S 0).2 7) n v X f i)) (HP P S) 22 [.ref 0, .null, .int (nI v), .int (rc ((S 0).2 7) n X (i - 1)), .int (nI i)] [] (HP P S) := by
      intro f
      induction f with
      | zero =>
        intro i hi _
        have e : i = 8 := by omega
        subst e
        refine ch_X4_hops_22 ?_
        rw [if_neg (by decide +kernel)]
        exact ⟨fit_i _, rfl, rfl⟩
      | succ f ih =>
        intro i hi hi1
        refine ch_X4_hops_22 ?_
        rw [if_pos (show nI i < 8 from nI_lt (b := 8) (by omega) (by omega))]
        simp only [f0_0, am_b_some]
        refine ⟨_, _, onN0 (ok_hearing (k := 1) bN hw.1.1 h8 hw.2.2.2.2.2.1.2.1 (by omega)), ?_⟩
        have er : rc ((S 0).2 7) n X (i - 1) ||| hearing ((S 0).2 7) n (rc ((S 0).2 7) n X (i - 1)) 1 = rc ((S 0).2 7) n X i := by
          conv => rhs; rw [show i = (i - 1) + 1 by omega]
          rfl
        rw [er]
        refine ⟨_, _, ok_has (by omega), ?_⟩
        have ih' := ih (i + 1) (by omega) (by omega)
        unfold hopR
        cases e : bt (rc ((S 0).2 7) n X i) v
        · rw [if_pos (by rfl), ← nI_succ]
          exact ih'
        · rw [if_neg (by decide)]
          exact ⟨fit_i _, rfl, rfl⟩
    refine both_same ⟨n, m, c, hI⟩ (x := hopR ((S 0).2 7) n v X 7 1) ?_ (fun h hc => ?_)
    · refine en_X4_hops k_0 rfl rfl (ch_X4_hops_0 ?_)
      simp only [f0_0, am_b_some]
      refine ⟨_, _, cPa hI, ?_⟩
      rw [if_neg (nI_yes hv), hX]
      exact clC 7 1 rfl (Nat.le_refl _)
    · refine en_X5_hops (cD hc) rfl rfl (ch_X5_hops_0 ⟨_, _, dTw hI hc, ?_⟩)
      rw [if_neg (nI_yes hv), hX, hopR_eq hd.1.1 h8 hx h1]
      have clD : ∀ f i, i + f = n → 1 ≤ i → am_wa L xs m_X5_hops (ob sgD h 98 (S 16)) (some (hopR ((S 0).2 7) n v X f i)) (ob sgD h 98 (S 16)) 19 [.ref 98, .null, .int (nI v), .int (rc ((S 0).2 7) n X (i - 1)), .int (nI i)] [] (ob sgD h 98 (S 16)) := by
        intro f
        induction f with
        | zero =>
          intro i hi _
          have e : i = n := by omega
          subst e
          refine ch_X5_hops_19 ?_
          simp only [cD hc, gD_0 hc, gD_1 hc, gD_2 hc, gD_3 hc, gD_4 hc, gD_5 hc, gD_6 hc, gD_7 hc, gD_8 hc, gD_9 hc, gD_10 hc, gD_11 hc, gD_12 hc, gD_13 hc, gD_14 hc, gD_15 hc, gD_16 hc, gD_17 hc, gD_18 hc, gD_19 hc, pD_1 hc, pD_2 hc, pD_3 hc, pD_5 hc, pD_8 hc, pD_11 hc, pD_12 hc, pD_13 hc, pD_14 hc, pD_15 hc, am_b_some, hI.1.2.1.1]
          rw [if_neg (nI_irr _)]
          (first | exact ⟨fit_i _, rfl, rfl⟩ | exact ⟨fit_i _, rfl, trivial⟩ | exact ⟨fit_i _, trivial, rfl⟩ | exact ⟨fit_i _, trivial, trivial⟩)
        | succ f ih =>
          intro i hi hi1
          refine ch_X5_hops_19 ?_
          simp only [cD hc, gD_0 hc, gD_1 hc, gD_2 hc, gD_3 hc, gD_4 hc, gD_5 hc, gD_6 hc, gD_7 hc, gD_8 hc, gD_9 hc, gD_10 hc, gD_11 hc, gD_12 hc, gD_13 hc, gD_14 hc, gD_15 hc, gD_16 hc, gD_17 hc, gD_18 hc, gD_19 hc, pD_1 hc, pD_2 hc, pD_3 hc, pD_5 hc, pD_8 hc, pD_11 hc, pD_12 hc, pD_13 hc, pD_14 hc, pD_15 hc, am_b_some, hI.1.2.1.1]
          rw [if_pos (nI_lt (by omega) (by omega))]
          refine ⟨_, _, onB0 (ok_hearingD (B := 0) (q := 1) hc (by omega) hI.1.2.1.1 h8 (by omega)), ?_⟩
          have eh : bs (fun v => bt (((1 : Int32) <<< (nI n &&& 31)) - 1) v && hears (seg (fun j => (S 16).2 0 (0 + j)) 17) (rc ((S 0).2 7) n X (i - 1)) 1 v) n = hearing ((S 0).2 7) n (rc ((S 0).2 7) n X (i - 1)) 1 := by
            unfold hearing
            refine bs_cong (fun j hj => ?_)
            rw [bt_mask n (by omega) j (by omega), decide_eq_true hj, Bool.true_and, hM.1.2.2.1]
          rw [eh]
          have er : rc ((S 0).2 7) n X (i - 1) ||| hearing ((S 0).2 7) n (rc ((S 0).2 7) n X (i - 1)) 1 = rc ((S 0).2 7) n X i := by
            conv => rhs; rw [show i = (i - 1) + 1 by omega]
            rfl
          rw [er]
          refine ⟨_, _, ok_hasD (by omega), ?_⟩
          have ih' := ih (i + 1) (by omega) (by omega)
          unfold hopR
          cases e : bt (rc ((S 0).2 7) n X i) v
          · rw [if_pos (by rfl), ← nI_succ]
            exact ih'
          · rw [if_neg (by decide)]
            exact ⟨fit_i _, rfl, rfl⟩
      exact clD (n - 1) 1 (by have := hd.1.1; omega) (Nat.le_refl _)
/-- the text, its reader, the trial mesh -/
theorem INV_text (hI : INVn n m c P S) {M X D : sg_S} (hz : tz4 M) (e1 : D.1 1 = (S 16).1 1 ∧ D.1 2 = (S 16).1 2 ∧ D.1 3 = (S 16).1 3 ∧ D.1 5 = (S 16).1 5) (e2 : ∀ k, k = 0 ∨ k = 4 ∨ k = 6 ∨ k = 9 ∨ k = 10 → D.2 k = (S 16).2 k) (hX : (∃ ln, ln ≤ 200 ∧ X.1 1 = nI ln ∧ D.1 8 = nI ln ∧ ∀ i, i < ln → X.2 0 i = D.2 7 i) ∧ ∀ i, i < 20 → D.2 17 i = wds.getD i 0) : INVn n m c P (va_up (va_up (va_up S 1 M) 12 X) 16 D) := by
  obtain ⟨⟨a1, a2, a3⟩, ⟨x, u, b1, b2, b3⟩, hK, hT, _, hZ⟩ := hI
  have e16 : va_up (va_up (va_up S 1 M) 12 X) 16 D 16 = D := vu_at _ _ _
  have e12 : va_up (va_up (va_up S 1 M) 12 X) 16 D 12 = X := by rw [vu_ne _ _ (by omega), vu_at]
  have e1' : va_up (va_up (va_up S 1 M) 12 X) 16 D 1 = M := by rw [vu_ne _ _ (by omega), vu_ne _ _ (by omega), vu_at]
  have ej : ∀ j, ¬ j = 16 → ¬ j = 12 → ¬ j = 1 → va_up (va_up (va_up S 1 M) 12 X) 16 D j = S j := fun j q1 q2 q3 => by rw [vu_ne _ _ q1, vu_ne _ _ q2, vu_ne _ _ q3]
  refine ⟨⟨a1, ?_, ?_⟩, ⟨x, u, b1, ?_, fun i hi => ?_⟩, fun q hq => ?_, fun s hs => ?_, ?_, fun j hj => ?_⟩
  · rw [e16, e1.1, e1.2.1, e1.2.2.1]; exact a2
  · rw [e16, ej 0 (by omega) (by omega) (by omega), e2 0 (by omega)]
    exact iM_cong (e2 4 (by omega)) (fun j hj => rfl) a3
  · rw [e16, e1.2.2.2]; exact b2
  · rw [e16, ej _ (by omega) (by omega) (by omega), e2 0 (by omega)]
    exact iM_cong (e2 4 (by omega)) (fun j hj => rfl) (b3 i hi)
  · rw [e16, ej _ (by omega) (by omega) (by omega), e2 0 (by omega), e2 6 (by omega)]
    refine ⟨(hK q hq).1, ?_⟩
    rcases (hK q hq).2 with z | ⟨z1, z2⟩
    · exact Or.inl z
    · exact Or.inr ⟨z1, iM_cong (e2 4 (by omega)) (fun j hj => rfl) z2⟩
  · rw [e16, ej _ (by omega) (by omega) (by omega)]
    unfold okT
    rw [e2 9 (by omega), e2 10 (by omega)]
    exact hT s hs
  · unfold iX
    rw [e16, e12]
    exact hX
  · by_cases q : j = 1
    · rw [q, e1']; exact hz
    · rw [ej j (by omega) (by omega) q]; exact hZ j hj
theorem INV_text0 (hI : INVn n m c P S) {X D : sg_S} (e1 : D.1 1 = (S 16).1 1 ∧ D.1 2 = (S 16).1 2 ∧ D.1 3 = (S 16).1 3 ∧ D.1 5 = (S 16).1 5) (e2 : ∀ k, k = 0 ∨ k = 4 ∨ k = 6 ∨ k = 9 ∨ k = 10 → D.2 k = (S 16).2 k) (hX : (∃ ln, ln ≤ 200 ∧ X.1 1 = nI ln ∧ D.1 8 = nI ln ∧ ∀ i, i < ln → X.2 0 i = D.2 7 i) ∧ ∀ i, i < 20 → D.2 17 i = wds.getD i 0) : INVn n m c P (va_up (va_up S 12 X) 16 D) := by
  have := INV_text hI (M := S 1) (hI.2.2.2.2.2 1 (by omega)) e1 e2 hX
  rwa [vu_id] at this
theorem ok_isFull {X : sg_S} {b ln : Nat} (hb : b + 1 < h.1) (e : X.1 1 = nI ln) (hl : ln ≤ 200) : am_ok L xs m_X3_isFull [.ref b] (ob sgX h b X) (some (if decide (ln = 200) then 1 else 0)) (ob sgX h b X) := by
  refine en_X3_isFull (cX hb) rfl rfl (ch_X3_isFull_0 ?_)
  simp only [cX hb, gX_0 hb, gX_1 hb, gX_2 hb, gX_3 hb, gX_4 hb, gX_5 hb, pX_1 hb, pX_2 hb, pX_3 hb, pX_4 hb, pX_5 hb, am_b_some, e]
  refine br2 (fun q => ?_) (fun q => ?_)
  · rw [decide_eq_false (fun z => by subst z; exact absurd q (by decide +kernel))]; (first | exact ⟨fit_0, rfl, rfl⟩ | exact ⟨fit_0, rfl, trivial⟩ | exact ⟨fit_0, trivial, rfl⟩ | exact ⟨fit_0, trivial, trivial⟩)
  · rw [decide_eq_true (show ln = 200 from Classical.byContradiction fun z => q (nI_lt (b := 200) (by omega) (by omega)))]; (first | exact ⟨fit_1, rfl, rfl⟩ | exact ⟨fit_1, rfl, trivial⟩ | exact ⟨fit_1, trivial, rfl⟩ | exact ⟨fit_1, trivial, trivial⟩)
theorem ok_add {X : sg_S} {b ln : Nat} {a : Int32} (hb : b + 1 < h.1) (e : X.1 1 = nI ln) (hl : ln < 200) : am_ok L xs m_X3_add [.ref b, .int a] (ob sgX h b X) (some (nI (ln + 1))) (ob sgX h b (upd X.1 1 (nI (ln + 1)), va_up X.2 0 (upd (X.2 0) ln a))) := by
  refine en_X3_add (cX hb) rfl rfl (ch_X3_add_0 ⟨_, _, ok_isFull hb e (by omega), ?_⟩)
  rw [if_pos (nI_no (decide_eq_false (by omega)))]
  simp only [cX hb, gX_0 hb, gX_1 hb, gX_2 hb, gX_3 hb, gX_4 hb, gX_5 hb, pX_1 hb, pX_2 hb, pX_3 hb, pX_4 hb, pX_5 hb, am_b_some, e, sX_0 hb hl, upd_at, ← nI_succ]
  (first | exact ⟨fit_i _, rfl, rfl⟩ | exact ⟨fit_i _, rfl, trivial⟩ | exact ⟨fit_i _, trivial, rfl⟩ | exact ⟨fit_i _, trivial, trivial⟩)
theorem ok_clear {X : sg_S} {b : Nat} (hb : b + 1 < h.1) : am_ok L xs m_X3_clear [.ref b] (ob sgX h b X) (some (X.1 1)) (ob sgX h b (upd X.1 1 0, X.2)) := by
  refine en_X3_clear (cX hb) rfl rfl (ch_X3_clear_0 ?_)
  simp only [cX hb, gX_0 hb, gX_1 hb, gX_2 hb, gX_3 hb, gX_4 hb, gX_5 hb, pX_1 hb, pX_2 hb, pX_3 hb, pX_4 hb, pX_5 hb, am_b_some]
  (first | exact ⟨fit_i _, rfl, rfl⟩ | exact ⟨fit_i _, rfl, trivial⟩ | exact ⟨fit_i _, trivial, rfl⟩ | exact ⟨fit_i _, trivial, trivial⟩)
theorem both_erase (hI : INVn n m c P S) : both L xs P S m_X4_erase m_X5_erase [] := by
  obtain ⟨⟨ln, x0, x1, x2, x3⟩, x4⟩ := hI.2.2.2.2.1
  have I2 := INV_text0 hI (X := (upd (S 12).1 1 0, (S 12).2)) (D := (upd (S 16).1 8 0, (S 16).2)) ⟨rfl, rfl, rfl, rfl⟩ (fun _ _ => rfl) ⟨⟨0, by omega, rfl, rfl, fun i hi => by omega⟩, x4⟩
  refine both_of (x := nI ln) ⟨n, m, c, I2⟩ (vu_ne _ _ (by omega)) ?_ (fun h hc => ?_)
  · refine en_X4_erase k_0 HP_12 HP_22 (ch_X4_erase_0 ?_)
    simp only [f0_2, am_b_some]
    refine ⟨_, _, onX (ok_clear bX), ?_⟩
    rw [x1]
    (first | exact ⟨fit_i _, rfl, rfl⟩ | exact ⟨fit_i _, rfl, trivial⟩ | exact ⟨fit_i _, trivial, rfl⟩ | exact ⟨fit_i _, trivial, trivial⟩)
  · refine en_X5_erase (cD hc) rfl rfl (ch_X5_erase_0 ?_)
    simp only [cD hc, gD_0 hc, gD_1 hc, gD_2 hc, gD_3 hc, gD_4 hc, gD_5 hc, gD_6 hc, gD_7 hc, gD_8 hc, gD_9 hc, gD_10 hc, gD_11 hc, gD_12 hc, gD_13 hc, gD_14 hc, gD_15 hc, gD_16 hc, gD_17 hc, gD_18 hc, gD_19 hc, pD_1 hc, pD_2 hc, pD_3 hc, pD_5 hc, pD_8 hc, pD_11 hc, pD_12 hc, pD_13 hc, pD_14 hc, pD_15 hc, am_b_some, x2]
    (first | exact ⟨fit_i _, rfl, rfl⟩ | exact ⟨fit_i _, rfl, trivial⟩ | exact ⟨fit_i _, trivial, rfl⟩ | exact ⟨fit_i _, trivial, trivial⟩)
theorem both_write (hI : INVn n m c P S) {a : Int32} : both L xs P S m_X4_write m_X5_write [.int a] := by
  obtain ⟨⟨ln, x0, x1, x2, x3⟩, x4⟩ := hI.2.2.2.2.1
  by_cases ha : ¬ a < 0 ∧ ¬ (255 : Int32) < a
  · by_cases hl : ln = 200
    · refine both_same ⟨n, m, c, hI⟩ (x := -5) ?_ (fun h hc => ?_)
      · refine en_X4_write k_0 rfl rfl (ch_X4_write_0 ?_)
        rw [if_neg ha.1, if_neg ha.2]
        simp only [f0_2, am_b_some]
        refine ⟨_, _, onX0 (ok_isFull bX x1 x0), ?_⟩
        rw [if_neg (nI_yes (decide_eq_true hl))]; (first | exact ⟨fit_i _, rfl, rfl⟩ | exact ⟨fit_i _, rfl, trivial⟩ | exact ⟨fit_i _, trivial, rfl⟩ | exact ⟨fit_i _, trivial, trivial⟩)
      · refine en_X5_write (cD hc) rfl rfl (ch_X5_write_0 ⟨_, _, ok_in, ?_⟩)
        rw [if_neg (nI_yes (decide_eq_true ha))]
        simp only [cD hc, gD_0 hc, gD_1 hc, gD_2 hc, gD_3 hc, gD_4 hc, gD_5 hc, gD_6 hc, gD_7 hc, gD_8 hc, gD_9 hc, gD_10 hc, gD_11 hc, gD_12 hc, gD_13 hc, gD_14 hc, gD_15 hc, gD_16 hc, gD_17 hc, gD_18 hc, gD_19 hc, pD_1 hc, pD_2 hc, pD_3 hc, pD_5 hc, pD_8 hc, pD_11 hc, pD_12 hc, pD_13 hc, pD_14 hc, pD_15 hc, am_b_some, x2]
        rw [if_pos (show nI ln = 200 by rw [hl]; rfl)]; (first | exact ⟨fit_i _, rfl, rfl⟩ | exact ⟨fit_i _, rfl, trivial⟩ | exact ⟨fit_i _, trivial, rfl⟩ | exact ⟨fit_i _, trivial, trivial⟩)
    · have I2 := INV_text0 hI (X := (upd (S 12).1 1 (nI (ln + 1)), va_up (S 12).2 0 (upd ((S 12).2 0) ln a))) (D := (upd (S 16).1 8 (nI (ln + 1)), va_up (S 16).2 7 (upd ((S 16).2 7) ln a))) ⟨rfl, rfl, rfl, rfl⟩ (fun k hk => vu_ne _ _ (by omega)) ⟨⟨ln + 1, by omega, rfl, rfl, fun i hi => ?_⟩, x4⟩
      · refine both_of (x := nI (ln + 1)) ⟨n, m, c, I2⟩ (vu_ne _ _ (by omega)) ?_ (fun h hc => ?_)
        · refine en_X4_write k_0 HP_12 HP_22 (ch_X4_write_0 ?_)
          rw [if_neg ha.1, if_neg ha.2]
          simp only [f0_2, am_b_some]
          refine ⟨_, _, onX0 (ok_isFull bX x1 x0), ?_⟩
          rw [if_pos (nI_no (decide_eq_false hl))]
          simp only [f0_2, am_b_some]
          refine ⟨_, _, onX (ok_add bX x1 (by omega)), ?_⟩
          (first | exact ⟨fit_i _, rfl, rfl⟩ | exact ⟨fit_i _, rfl, trivial⟩ | exact ⟨fit_i _, trivial, rfl⟩ | exact ⟨fit_i _, trivial, trivial⟩)
        · refine en_X5_write (cD hc) rfl rfl (ch_X5_write_0 ⟨_, _, ok_in, ?_⟩)
          rw [if_neg (nI_yes (decide_eq_true ha))]
          simp only [cD hc, gD_0 hc, gD_1 hc, gD_2 hc, gD_3 hc, gD_4 hc, gD_5 hc, gD_6 hc, gD_7 hc, gD_8 hc, gD_9 hc, gD_10 hc, gD_11 hc, gD_12 hc, gD_13 hc, gD_14 hc, gD_15 hc, gD_16 hc, gD_17 hc, gD_18 hc, gD_19 hc, pD_1 hc, pD_2 hc, pD_3 hc, pD_5 hc, pD_8 hc, pD_11 hc, pD_12 hc, pD_13 hc, pD_14 hc, pD_15 hc, am_b_some, x2]
          rw [if_neg (show ¬ nI ln = 200 from fun z => hl ((nI_eq (b := 200) (by omega) (by omega)).mp z))]
          simp only [cD hc, gD_0 hc, gD_1 hc, gD_2 hc, gD_3 hc, gD_4 hc, gD_5 hc, gD_6 hc, gD_7 hc, gD_8 hc, gD_9 hc, gD_10 hc, gD_11 hc, gD_12 hc, gD_13 hc, gD_14 hc, gD_15 hc, gD_16 hc, gD_17 hc, gD_18 hc, gD_19 hc, pD_1 hc, pD_2 hc, pD_3 hc, pD_5 hc, pD_8 hc, pD_11 hc, pD_12 hc, pD_13 hc, pD_14 hc, pD_15 hc, am_b_some, x2, sD_7 hc (show ln < 200 by omega), ← nI_succ, upd_at]
          (first | exact ⟨fit_i _, rfl, rfl⟩ | exact ⟨fit_i _, rfl, trivial⟩ | exact ⟨fit_i _, trivial, rfl⟩ | exact ⟨fit_i _, trivial, trivial⟩)
      · show upd ((S 12).2 0) ln a i = va_up (S 16).2 7 (upd ((S 16).2 7) ln a) 7 i
        rw [vu_at]
        by_cases q : i = ln
        · rw [q, upd_at, upd_at]
        · rw [upd_ne _ _ q, upd_ne _ _ q]
          exact x3 i (by omega)
  · refine both_same ⟨n, m, c, hI⟩ (x := -3) ?_ (fun h hc => ?_)
    · refine en_X4_write k_0 rfl rfl (ch_X4_write_0 ?_)
      by_cases q : a < 0
      · rw [if_pos q]; (first | exact ⟨fit_i _, rfl, rfl⟩ | exact ⟨fit_i _, rfl, trivial⟩ | exact ⟨fit_i _, trivial, rfl⟩ | exact ⟨fit_i _, trivial, trivial⟩)
      · rw [if_neg q, if_pos (Classical.byContradiction fun z => ha ⟨q, z⟩)]; (first | exact ⟨fit_i _, rfl, rfl⟩ | exact ⟨fit_i _, rfl, trivial⟩ | exact ⟨fit_i _, trivial, rfl⟩ | exact ⟨fit_i _, trivial, trivial⟩)
    · refine en_X5_write (cD hc) rfl rfl (ch_X5_write_0 ⟨_, _, ok_in, ?_⟩)
      rw [if_pos (nI_no (decide_eq_false ha))]; (first | exact ⟨fit_i _, rfl, rfl⟩ | exact ⟨fit_i _, rfl, trivial⟩ | exact ⟨fit_i _, trivial, rfl⟩ | exact ⟨fit_i _, trivial, trivial⟩)
end DI
