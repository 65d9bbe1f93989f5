/-! THE REFERENCE SETTLES IN THE CLASS'S ORDER -/
def TZ (f : Nat → Int32) : Prop := ∀ v, 8 ≤ v → f v = 0
theorem TZ_upd {f : Nat → Int32} (h : TZ f) {v : Nat} (hv : v < 8) (x : Int32) : TZ (upd f v x) := fun u hu => by rw [upd_ne _ _ (by omega)]; exact h u hu
theorem TZ_seg (k : Nat → Int32) (a : Nat) : TZ (seg k a) := fun v hv => if_neg (by omega)
theorem TZ_ext {f g : Nat → Int32} (hf : TZ f) (hg : TZ g) (h : ∀ v, v < 8 → f v = g v) : f = g := by
  funext v
  rcases Nat.lt_or_ge v 8 with q | q
  · exact h v q
  · rw [hf v q, hg v q]
theorem seg_put {k H : Nat → Int32} {a : Nat} (h : TZ H) : seg (fb_put k H a 8) a = H := by
  refine TZ_ext (TZ_seg _ _) h (fun v hv => ?_)
  rw [seg_at _ _ hv, fb_put_in (by omega) (by omega)]
  congr 1
  omega
theorem seg_put_ne {k H : Nat → Int32} {a c : Nat} (h : c + 8 ≤ a ∨ a + 8 ≤ c) : seg (fb_put k H a 8) c = seg k c := by
  refine TZ_ext (TZ_seg _ _) (TZ_seg _ _) (fun v hv => ?_)
  rw [seg_at _ _ hv, seg_at _ _ hv, fb_put_out (by omega)]
theorem fb_put_seg (k : Nat → Int32) (a : Nat) : fb_put k (seg k a) a 8 = k := by
  funext i
  unfold fb_put
  by_cases q : a ≤ i ∧ i < a + 8
  · rw [if_pos q, seg_at _ _ (by omega)]
    congr 1
    omega
  · rw [if_neg q]
theorem seF_cong {K f f' : Nat → Int32} {n t : Nat} {an lot : Int32} {s : Nat} {p : (Nat → Int32) × Int32} (h : f s = f' s) : seF K n t an f lot s p = seF K n t an f' lot s p := by
  unfold seF
  rw [h]
theorem seI_cong {K f f' : Nat → Int32} {n t : Nat} {an lot : Int32} {p : (Nat → Int32) × Int32} : ∀ {i : Nat}, (∀ s, s < i → f s = f' s) → seI K n t an f lot p i = seI K n t an f' lot p i := by
  intro i
  induction i with
  | zero => intro _; rfl
  | succ i ih =>
    intro h
    show seF _ _ _ _ _ _ _ (seI K n t an f lot p i) = seF _ _ _ _ _ _ _ (seI K n t an f' lot p i)
    rw [ih (fun s hs => h s (by omega)), seF_cong (h i (by omega))]
theorem seO_cong {K f f' H : Nat → Int32} {n t : Nat} {an : Int32} (h : ∀ s, s < n → f s = f' s) : ∀ j, seO K n t an f H j = seO K n t an f' H j := by
  intro j
  induction j with
  | zero => rfl
  | succ j ih =>
    show seI _ _ _ _ _ _ (seO K n t an f H j) n = seI _ _ _ _ _ _ (seO K n t an f' H j) n
    rw [ih, seI_cong h]
theorem seF_TZ {K f : Nat → Int32} {n t : Nat} {an lot : Int32} {s : Nat} {p : (Nat → Int32) × Int32} (hs : s < 8) (h : TZ p.1) : TZ (seF K n t an f lot s p).1 := by
  unfold seF
  split
  · exact TZ_upd h hs _
  · exact h
theorem seI_TZ {K f : Nat → Int32} {n t : Nat} {an lot : Int32} {p : (Nat → Int32) × Int32} (h : TZ p.1) : ∀ {i : Nat}, i ≤ 8 → TZ (seI K n t an f lot p i).1 := by
  intro i
  induction i with
  | zero => intro _; exact h
  | succ i ih => intro hi; exact seF_TZ (by omega) (ih (by omega))
theorem seO_TZ {K f H : Nat → Int32} {n t : Nat} {an : Int32} (h8 : n ≤ 8) (h : TZ H) : ∀ j, TZ (seO K n t an f H j).1 := by
  intro j
  induction j with
  | zero => exact h
  | succ j ih => exact seI_TZ ih h8
/-- a station's lot -/
def lotN (C l : Int32) (v : Nat) : Nat := (lotV (lotS (drl C l v)) 8).toNatClampNeg
theorem lotN_is {C l : Int32} (h : lotOk l) (v : Nat) : lotN C l v < 8 ∧ lotV (lotS (drl C l v)) 8 = nI (lotN C l v) := by
  obtain ⟨q, hq, e⟩ := lot8 (lotOk_drl h v)
  have e2 : lotN C l v = q := by unfold lotN; rw [e, nI_clamp (by omega)]
  rw [e2]
  exact ⟨hq, e⟩
def fC (C l : Int32) (v : Nat) : Int32 := if bt C v then lotV (lotS (drl C l v)) 8 else -1
theorem fC_is {C l : Int32} (h : lotOk l) {v q : Nat} (hq : q < 8) : (fC C l v = nI q) ↔ (bt C v = true ∧ lotN C l v = q) := by
  obtain ⟨h1, h2⟩ := lotN_is (C := C) h v
  unfold fC
  by_cases c : bt C v = true
  · rw [if_pos c, h2, nI_eq (by omega) (by omega)]
    simp [c]
  · rw [if_neg c]
    constructor
    · intro z; exact absurd z.symm (nI_ne_m1 (by omega))
    · intro z; exact absurd z.1 c
def rem (C l : Int32) (q i v : Nat) : Bool := bt C v && decide (lotN C l v + 1 < q ∨ (lotN C l v + 1 = q ∧ i ≤ v))
theorem bs_none {P : Nat → Bool} : ∀ {n : Nat}, (∀ i, i < n → P i = false) → bs P n = 0 := by
  intro n
  induction n with
  | zero => intro _; rfl
  | succ n ih =>
    intro h
    rw [bs_succ, if_neg (by rw [h n (by omega)]; simp), ih (fun i hi => h i (by omega))]
theorem bs_all {C : Int32} {n : Nat} (h8 : n ≤ 8) (hC : ∀ i, i < 32 → bt C i = true → i < n) {P : Nat → Bool} (hP : ∀ i, i < n → P i = bt C i) : bs P n = C := by
  apply b_ext
  intro i hi
  rw [bt_bs P (by omega) hi]
  by_cases q : i < n
  · simp [q, hP i q]
  · rw [decide_eq_false q, Bool.false_and]
    cases e : bt C i
    · rfl
    · exact absurd (hC i hi e) q
section D3
variable {L : Nat} {xs : Nat → Int32} {h : am_H} {c B n v s t : Nat} {D : sg_S} {k : Nat → Int32}
theorem ok_settles (hc : c + 10 < h.1) (hB : B + 31 ≤ 372) (hn : D.1 1 = nI n) (h8 : n ≤ 8) (ht : t < 4) {C an : Int32} (hC : ∀ i, i < 32 → bt C i = true → i < n) (hl : lotOk (k 0)) : am_ok L xs m_X5_settles [.ref c, .int (nI B), .int (nI t), .int C, .int an] (ob sgD h c (dB D B k)) (some (seO (seg k 17) n t an (fC C (k 0)) (seg k 9) 8).2) (ob sgD h c (dB (D.1, va_up D.2 18 (drL C 0 (k 0) (D.2 18) n).1) B (fb_put (upd k 0 (drl C (k 0) n)) (seO (seg k 17) n t an (fC C (k 0)) (seg k 9) 8).1 9 8))) := by
  refine en_X5_settles (cD hc) rfl rfl (ch_X5_settles_0 ?_)
  generalize hR : some (seO (seg k 17) n t an (fC C (k 0)) (seg k 9) 8).2 = R
  generalize hE : ob sgD h c (dB (D.1, va_up D.2 18 (drL C 0 (k 0) (D.2 18) n).1) B (fb_put (upd k 0 (drl C (k 0) n)) (seO (seg k 17) n t an (fC C (k 0)) (seg k 9) 8).1 9 8)) = E
  have key := up_to (P := fun i => am_wa L xs m_X5_settles (ob sgD h c (dB D B k)) R E 3 [.ref c, .int (nI B), .int (nI t), .int C, .int an, .int (nI i), .null, .null] [] (ob sgD h c (dB (D.1, va_up D.2 18 (drL C 0 (k 0) (D.2 18) i).1) B (upd k 0 (drl C (k 0) i))))) n ?_ ?_ 0 (by omega)
  · simp only [drL, drl, upd_id, vu_id] at key
    exact key
  · refine ch_X5_settles_3 ?_
    simp only [cD hc, gD_0 hc, gD_1 hc, gD_2 hc, gD_3 hc, gD_4 hc, gD_5 hc, gD_6 hc, gD_7 hc, gD_8 hc, gD_9 hc, gD_10 hc, gD_11 hc, gD_12 hc, gD_13 hc, gD_14 hc, gD_15 hc, gD_16 hc, gD_17 hc, gD_18 hc, gD_19 hc, pD_1 hc, pD_2 hc, pD_3 hc, pD_5 hc, pD_8 hc, pD_11 hc, pD_12 hc, pD_13 hc, pD_14 hc, pD_15 hc, dB_1, am_b_some, hn]
    rw [if_neg (nI_irr n)]
    obtain ⟨D1, hD1⟩ : ∃ D1, D1 = (D.1, va_up D.2 18 (drL C 0 (k 0) (D.2 18) n).1) := ⟨_, rfl⟩
    obtain ⟨k1, hk1⟩ : ∃ k1, k1 = upd k 0 (drl C (k 0) n) := ⟨_, rfl⟩
    have hn1 : D1.1 1 = nI n := by rw [hD1]; exact hn
    have s17 : seg k1 17 = seg k 17 := by rw [hk1]; exact seg_ne _ _ _ _ (by omega)
    have s9 : seg k1 9 = seg k 9 := by rw [hk1]; exact seg_ne _ _ _ _ (by omega)
    have hg : ∀ v, v < n → bt C v = true → D1.2 18 v = nI (lotN C (k 0) v) := by
      intro v hv hb
      rw [hD1]
      show (drL C 0 (k 0) (D.2 18) n).1 v = _
      rw [drL_1, if_pos hv, if_pos hb]
      exact (lotN_is hl v).2
    rw [← hD1, ← hk1] at hE ⊢
    have sg9 : ∀ H, TZ H → seg (fb_put k1 H 9 8) 9 = H := fun H hH => seg_put hH
    have sg17 : ∀ H, seg (fb_put k1 H 9 8) 17 = seg k 17 := fun H => by rw [seg_put_ne (by omega), s17]
    have hlow : ∀ v, lotN C (k 0) v < 8 := fun v => (lotN_is hl v).1
    have outer := up_to (P := fun j => am_wa L xs m_X5_settles (ob sgD h c (dB D B k)) R E 51 [.ref c, .int (nI B), .int (nI t), .null, .int an, .int (bs (rem C (k 0) (8 - j) 0) n), .int (seO (seg k 17) n t an (fC C (k 0)) (seg k 9) j).2, .null] [] (ob sgD h c (dB D1 B (fb_put k1 (seO (seg k 17) n t an (fC C (k 0)) (seg k 9) j).1 9 8)))) 8 ?_ ?_ 0 (by omega)
    · have e1 : bs (rem C (k 0) (8 - 0) 0) n = C := bs_all h8 hC (fun i hi => by
        unfold rem
        rw [decide_eq_true (by have := hlow i; omega), Bool.and_true])
      rw [e1] at outer
      have e2 : fb_put k1 (seO (seg k 17) n t an (fC C (k 0)) (seg k 9) 0).1 9 8 = k1 := by
        show fb_put k1 (seg k 9) 9 8 = k1
        rw [← s9, fb_put_seg]
      rw [e2] at outer
      exact outer
    · refine ch_X5_settles_51 ?_
      have e1 : bs (rem C (k 0) (8 - 8) 0) n = 0 := bs_none (fun i _ => by unfold rem; rw [decide_eq_false (by omega), Bool.and_false])
      rw [if_pos e1]
      exact ⟨fit_i _, hR, hE⟩
    · intro j hj ihj
      have inner := up_to (P := fun i => am_wa L xs m_X5_settles (ob sgD h c (dB D B k)) R E 51 [.ref c, .int (nI B), .int (nI t), .null, .int an, .int (bs (rem C (k 0) (8 - j) i) n), .int (seI (seg k 17) n t an (fC C (k 0)) (nI (7 - j)) (seO (seg k 17) n t an (fC C (k 0)) (seg k 9) j) i).2, .null] [] (ob sgD h c (dB D1 B (fb_put k1 (seI (seg k 17) n t an (fC C (k 0)) (nI (7 - j)) (seO (seg k 17) n t an (fC C (k 0)) (seg k 9) j) i).1 9 8)))) n ?_ ?_ 0 (by omega)
      · exact inner
      · have e1 : bs (rem C (k 0) (8 - j) n) n = bs (rem C (k 0) (8 - (j + 1)) 0) n := bs_cong (fun i hi => by
          unfold rem
          congr 1
          exact decide_eq_decide.mpr (by omega))
        rw [e1]
        exact ihj
      · intro i hi ihi
        have hi8 : i < 8 := by omega
        have hTZ : TZ (seI (seg k 17) n t an (fC C (k 0)) (nI (7 - j)) (seO (seg k 17) n t an (fC C (k 0)) (seg k 9) j) i).1 := seI_TZ (seO_TZ h8 (TZ_seg _ _) j) (by omega)
        have hs1 : seI (seg k 17) n t an (fC C (k 0)) (nI (7 - j)) (seO (seg k 17) n t an (fC C (k 0)) (seg k 9) j) (i + 1) = seF (seg k 17) n t an (fC C (k 0)) (nI (7 - j)) i (seI (seg k 17) n t an (fC C (k 0)) (nI (7 - j)) (seO (seg k 17) n t an (fC C (k 0)) (seg k 9) j) i) := rfl
        rw [hs1] at ihi
        generalize seI (seg k 17) n t an (fC C (k 0)) (nI (7 - j)) (seO (seg k 17) n t an (fC C (k 0)) (seg k 9) j) i = p at ihi hTZ ⊢
        by_cases hit : fC C (k 0) i = nI (7 - j)
        · obtain ⟨hb, hq⟩ := (fC_is hl (show 7 - j < 8 by omega)).mp hit
          have hbit : bt (bs (rem C (k 0) (8 - j) i) n) i = true := by
            rw [bt_bs _ (by omega) (by omega), decide_eq_true hi]
            unfold rem
            rw [hb, decide_eq_true (by omega)]
            rfl
          have hfst : fstB (D1.2 18) (bs (rem C (k 0) (8 - j) i) n) n = some i := by
            refine fstB_is hi hbit (fun u hu hbu => ?_) (fun u hu hbu => ?_)
            · rw [bt_bs _ (by omega) (by omega)] at hbu
              simp only [rem, Bool.and_eq_true, decide_eq_true_eq] at hbu
              rw [hg i hi hb, hg u hu hbu.2.1]
              exact nI_nlt (by omega) (by have := hlow i; omega)
            · rw [bt_bs _ (by omega) (by omega)] at hbu
              simp only [rem, Bool.and_eq_true, decide_eq_true_eq] at hbu
              rw [hg i hi hb, hg u (by omega) hbu.2.1]
              exact nI_lt (by omega) (by have := hlow i; omega)
          have hleft : bs (rem C (k 0) (8 - j) i) n &&& (((1 : Int32) <<< (nI i &&& 31)) ^^^ (-1)) = bs (rem C (k 0) (8 - j) (i + 1)) n := by
            apply b_ext
            intro u hu
            rw [b_and, bt_not hu, bt_one (by omega) hu, bt_bs _ (by omega) hu, bt_bs _ (by omega) hu]
            by_cases e : u = i
            · subst e
              unfold rem
              rw [show decide (u = u) = true by simp, decide_eq_false (show ¬ (lotN C (k 0) u + 1 < 8 - j ∨ lotN C (k 0) u + 1 = 8 - j ∧ u + 1 ≤ u) by omega)]
              simp
            · rw [decide_eq_false e]
              have e9 : rem C (k 0) (8 - j) i u = rem C (k 0) (8 - j) (i + 1) u := by
                unfold rem
                congr 1
                exact decide_eq_decide.mpr (by omega)
              rw [e9]
              simp
          refine ch_X5_settles_51 ?_
          rw [if_neg (show ¬ bs (rem C (k 0) (8 - j) i) n = 0 from fun z => by rw [z, b_0] at hbit; cases hbit)]
          refine ⟨_, _, ok_first (D := dB D1 B (fb_put k1 p.1 9 8)) hc hn1 h8, ?_⟩
          rw [show (dB D1 B (fb_put k1 p.1 9 8)).2 18 = D1.2 18 from rfl, hfst]
          simp only [fstI, cD hc, gD_0 hc, gD_1 hc, gD_2 hc, gD_3 hc, gD_4 hc, gD_5 hc, gD_6 hc, gD_7 hc, gD_8 hc, gD_9 hc, gD_10 hc, gD_11 hc, gD_12 hc, gD_13 hc, gD_14 hc, gD_15 hc, gD_16 hc, gD_17 hc, gD_18 hc, gD_19 hc, pD_1 hc, pD_2 hc, pD_3 hc, pD_5 hc, pD_8 hc, pD_11 hc, pD_12 hc, pD_13 hc, pD_14 hc, pD_15 hc, dB_1, am_b_some, ix17, lS hc hB (show 17 + 8 ≤ 31 by omega) hi8, sg17, hleft]
          refine br2 (fun c2 => ?_) (fun c2 => ⟨_, _, ok_nearD hc hB hn1 h8 hi8, _, _, ok_holdersD hc hB hn1 h8 (by omega), ?_⟩)
          · rw [seF, if_neg (fun z => z.2.1 c2)] at ihi
            exact ihi
          · rw [sg9 _ hTZ, sg17]
            refine br2 (fun c3 => ?_) (fun c3 => ?_)
            · rw [seF, if_pos ⟨hit, c2, c3⟩] at ihi
              simp only [cD hc, gD_0 hc, gD_1 hc, gD_2 hc, gD_3 hc, gD_4 hc, gD_5 hc, gD_6 hc, gD_7 hc, gD_8 hc, gD_9 hc, gD_10 hc, gD_11 hc, gD_12 hc, gD_13 hc, gD_14 hc, gD_15 hc, gD_16 hc, gD_17 hc, gD_18 hc, gD_19 hc, pD_1 hc, pD_2 hc, pD_3 hc, pD_5 hc, pD_8 hc, pD_11 hc, pD_12 hc, pD_13 hc, pD_14 hc, pD_15 hc, dB_1, am_b_some, ix9, lS hc hB (show 9 + 8 ≤ 31 by omega) hi8, sS hc hB (show 9 + 8 ≤ 31 by omega) hi8, sg9 _ hTZ, fb_upd _ _ hi8]
              exact ihi
            · rw [seF, if_neg (fun z => c3 z.2.2)] at ihi
              exact ihi
        · rw [seF, if_neg (fun z => hit z.1)] at ihi
          have e1 : bs (rem C (k 0) (8 - j) i) n = bs (rem C (k 0) (8 - j) (i + 1)) n := bs_cong (fun u hu => by
            unfold rem
            cases hb : bt C u
            · rfl
            · rw [Bool.true_and, Bool.true_and]
              have hne : u = i → ¬ lotN C (k 0) u = 7 - j := fun e z => hit ((fC_is hl (show 7 - j < 8 by omega)).mpr ⟨e ▸ hb, e ▸ z⟩)
              exact decide_eq_decide.mpr (by omega))
          rw [e1]
          exact ihi
  · intro i hi ih
    have hi8 : i < 8 := by omega
    refine ch_X5_settles_3 ?_
    simp only [cD hc, gD_0 hc, gD_1 hc, gD_2 hc, gD_3 hc, gD_4 hc, gD_5 hc, gD_6 hc, gD_7 hc, gD_8 hc, gD_9 hc, gD_10 hc, gD_11 hc, gD_12 hc, gD_13 hc, gD_14 hc, gD_15 hc, gD_16 hc, gD_17 hc, gD_18 hc, gD_19 hc, pD_1 hc, pD_2 hc, pD_3 hc, pD_5 hc, pD_8 hc, pD_11 hc, pD_12 hc, pD_13 hc, pD_14 hc, pD_15 hc, dB_1, am_b_some, hn]
    rw [if_pos (nI_lt hi (by omega))]
    refine ⟨_, _, ok_hasD (by omega), br2 (fun c1 => ?_) (fun c1 => ?_)⟩
    · rw [bz_ne] at c1
      simp only [sB18 hc hi8, am_b_some, vu_at, vu_vu]
      simp only [drL, drl, c1] at ih
      rw [← nI_succ]
      exact ih
    · rw [bz_ne] at c1
      refine ⟨_, _, ok_lot hc hB (by decide +kernel), ?_⟩
      simp only [sB18 hc hi8, am_b_some, vu_at, vu_vu, upd_at, upd_upd]
      simp only [drL, drl, show bt C i = true by simpa using c1, if_true, drL_2] at ih
      rw [← nI_succ]
      exact ih
end D3
