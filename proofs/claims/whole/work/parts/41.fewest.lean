/-! FORETOLD: the fewest slots -/
def mT (K Wt : Nat → Int32) (n : Nat) (f : Nat → Nat) (v : Nat) : Nat → Int32
  | 0 => 0
  | u + 1 => if 0 < Wt u ∧ bt (near K n v) u = true then mT K Wt n f v u ||| ((1 : Int32) <<< (nI (f u) &&& 31)) else mT K Wt n f v u
def upN (f : Nat → Nat) (k x : Nat) : Nat → Nat := fun i => if i = k then x else f i
def fF (K Wt : Nat → Int32) (n : Nat) : Nat → (Nat → Nat)
  | 0 => fun _ => 0
  | s + 1 => upN (fF K Wt n s) s (lfG (mT K Wt n (fF K Wt n s) s s) 8 0)
def uU (K Wt : Nat → Int32) (n : Nat) : Nat → Nat
  | 0 => 0
  | s + 1 => if 0 < Wt s then max (uU K Wt n s) (lfG (mT K Wt n (fF K Wt n s) s s) 8 0 + 1) else uU K Wt n s
section FW
variable {K Wt : Nat → Int32} {n : Nat}
theorem lfG_le_of {x : Int32} {v : Nat} (hx : bt x v = false) : ∀ f k, k ≤ v → v < k + f → lfG x f k ≤ v := by
  intro f
  induction f with
  | zero => intro k h1 h2; omega
  | succ f ih =>
    intro k h1 h2
    unfold lfG
    by_cases e : bt x k = true
    · rw [if_pos e]
      have : ¬ k = v := fun z => by rw [z, hx] at e; exact absurd e (by decide)
      exact ih (k + 1) (by omega) (by omega)
    · rw [if_neg e]; exact h1
theorem bt_mT {f : Nat → Nat} {v : Nat} {b : Nat} (hb : b < 32) : ∀ j, (∀ u, u < j → f u < 32) → (bt (mT K Wt n f v j) b = true ↔ ∃ u, u < j ∧ 0 < Wt u ∧ bt (near K n v) u = true ∧ f u = b) := by
  intro j
  induction j with
  | zero =>
    intro _
    unfold mT
    rw [b_0]
    constructor
    · intro z; exact absurd z (by decide)
    · rintro ⟨u, hu, _⟩; omega
  | succ j ih =>
    intro hf
    have ih := ih (fun u hu => hf u (by omega))
    unfold mT
    by_cases e : 0 < Wt j ∧ bt (near K n v) j = true
    · rw [if_pos e, b_or, bt_one (hf j (by omega)) hb, Bool.or_eq_true, ih, decide_eq_true_eq]
      constructor
      · rintro (⟨u, h1, h2⟩ | h)
        · exact ⟨u, by omega, h2⟩
        · exact ⟨j, by omega, e.1, e.2, h.symm⟩
      · rintro ⟨u, h1, h2, h3, h4⟩
        by_cases q : u = j
        · subst q; exact Or.inr h4.symm
        · exact Or.inl ⟨u, by omega, h2, h3, h4⟩
    · rw [if_neg e, ih]
      constructor
      · rintro ⟨u, h1, h2⟩
        exact ⟨u, by omega, h2⟩
      · rintro ⟨u, h1, h2, h3, h4⟩
        by_cases q : u = j
        · subst q; exact absurd ⟨h2, h3⟩ e
        · exact ⟨u, by omega, h2, h3, h4⟩
theorem bt_tkL {H : Nat → Int32} {v b : Nat} : ∀ j, bt (tkL K H n v j) b = true ↔ ∃ u, u < j ∧ bt (near K n v) u = true ∧ bt (H u) b = true := by
  intro j
  induction j with
  | zero =>
    unfold tkL
    rw [b_0]
    constructor
    · intro z; exact absurd z (by decide)
    · rintro ⟨u, hu, _⟩; omega
  | succ j ih =>
    unfold tkL
    by_cases e : bt (near K n v) j = true
    · rw [if_pos e, b_or, Bool.or_eq_true, ih]
      constructor
      · rintro (⟨u, h1, h2⟩ | h)
        · exact ⟨u, by omega, h2⟩
        · exact ⟨j, by omega, e, h⟩
      · rintro ⟨u, h1, h2, h3⟩
        by_cases q : u = j
        · subst q; exact Or.inr h3
        · exact Or.inl ⟨u, by omega, h2, h3⟩
    · rw [if_neg e, ih]
      constructor
      · rintro ⟨u, h1, h2⟩
        exact ⟨u, by omega, h2⟩
      · rintro ⟨u, h1, h2, h3⟩
        by_cases q : u = j
        · subst q; exact absurd h2 e
        · exact ⟨u, by omega, h2, h3⟩
theorem fF_le : ∀ s, s ≤ 8 → ∀ u, u < s → fF K Wt n s u ≤ u := by
  intro s
  induction s with
  | zero => intro _ u hu; omega
  | succ s ih =>
    intro hs u hu
    have ih := ih (by omega)
    show upN (fF K Wt n s) s (lfG (mT K Wt n (fF K Wt n s) s s) 8 0) u ≤ u
    unfold upN
    by_cases e : u = s
    · subst e
      rw [if_pos rfl]
      refine lfG_le_of ?_ 8 0 (by omega) (by omega)
      cases e : bt (mT K Wt n (fF K Wt n u) u u) u
      · rfl
      · rw [bt_mT (by omega) u (fun i hi => by have := ih i hi; omega)] at e
        obtain ⟨i, h1, _, _, h4⟩ := e
        have := ih i h1
        omega
    · rw [if_neg e]
      exact ih u (by omega)
theorem fF_old {s u : Nat} (hu : u < s) : fF K Wt n (s + 1) u = fF K Wt n s u := if_neg (by omega)
theorem fF_new (s : Nat) : fF K Wt n (s + 1) s = lfG (mT K Wt n (fF K Wt n s) s s) 8 0 := if_pos rfl
theorem da_fF {H : Nat → Int32} (h8 : n ≤ 8) (hH : ∀ u, u < 8 → H u = 0) : ∀ s, s ≤ n → ((∀ u, u < 8 → (daL K Wt n H s).1 u = if u < s ∧ 0 < Wt u then (1 : Int32) <<< (nI (fF K Wt n s u) &&& 31) else 0) ∧ (daL K Wt n H s).2 = uU K Wt n s) ∧ (s < n → lfG (tkL K (daL K Wt n H s).1 n s n) 8 0 = lfG (mT K Wt n (fF K Wt n s) s s) 8 0) := by
  intro s
  have tk : ∀ s, s < n → (∀ u, u < 8 → (daL K Wt n H s).1 u = if u < s ∧ 0 < Wt u then (1 : Int32) <<< (nI (fF K Wt n s u) &&& 31) else 0) → tkL K (daL K Wt n H s).1 n s n = mT K Wt n (fF K Wt n s) s s := by
    intro s hs h
    apply b_ext
    intro b hb
    have key : bt (tkL K (daL K Wt n H s).1 n s n) b = true ↔ bt (mT K Wt n (fF K Wt n s) s s) b = true := by
      rw [bt_tkL, bt_mT hb s (fun u hu => by have := fF_le (K := K) (Wt := Wt) (n := n) s (by omega) u hu; omega)]
      constructor
      · rintro ⟨u, h1, h2, h3⟩
        rw [h u (by omega)] at h3
        by_cases q : u < s ∧ 0 < Wt u
        · rw [if_pos q, bt_one (by have := fF_le (K := K) (Wt := Wt) (n := n) s (by omega) u q.1; omega) hb] at h3
          exact ⟨u, q.1, q.2, h2, (of_decide_eq_true h3).symm⟩
        · rw [if_neg q, b_0] at h3
          exact absurd h3 (by decide)
      · rintro ⟨u, h1, h2, h3, h4⟩
        refine ⟨u, by omega, h3, ?_⟩
        rw [h u (by omega), if_pos ⟨h1, h2⟩, bt_one (by have := fF_le (K := K) (Wt := Wt) (n := n) s (by omega) u h1; omega) hb]
        exact decide_eq_true h4.symm
    cases e1 : bt (tkL K (daL K Wt n H s).1 n s n) b
    · cases e2 : bt (mT K Wt n (fF K Wt n s) s s) b
      · rfl
      · rw [key.mpr e2] at e1; exact absurd e1 (by decide)
    · rw [key.mp e1]
  induction s with
  | zero =>
    intro _
    refine ⟨⟨fun u hu => ?_, rfl⟩, fun hs => ?_⟩
    · show H u = _
      rw [hH u hu, if_neg (by omega)]
    · rw [tk 0 hs (fun u hu => by show H u = _; rw [hH u hu, if_neg (by omega)])]
  | succ s ih =>
    intro hs
    obtain ⟨⟨i1, i2⟩, i3⟩ := ih (by omega)
    have i3 := i3 (by omega)
    have a1 : (∀ u, u < 8 → (daL K Wt n H (s + 1)).1 u = if u < s + 1 ∧ 0 < Wt u then (1 : Int32) <<< (nI (fF K Wt n (s + 1) u) &&& 31) else 0) ∧ (daL K Wt n H (s + 1)).2 = uU K Wt n (s + 1) := by
      unfold daL uU
      by_cases e : 0 < Wt s
      · rw [if_pos e, if_pos e]
        refine ⟨fun u hu => ?_, ?_⟩
        · show upd (daL K Wt n H s).1 s _ u = _
          by_cases q : u = s
          · subst q
            rw [upd_at, if_pos ⟨by omega, e⟩, i3, fF_new]
          · rw [upd_ne _ _ q, i1 u hu]
            by_cases q2 : u < s ∧ 0 < Wt u
            · rw [if_pos q2, if_pos ⟨by omega, q2.2⟩, fF_old q2.1]
            · rw [if_neg q2, if_neg (fun z => q2 ⟨by omega, z.2⟩)]
        · show max (daL K Wt n H s).2 _ = _
          rw [i2, i3]
      · rw [if_neg e, if_neg e]
        refine ⟨fun u hu => ?_, i2⟩
        rw [i1 u hu]
        by_cases q2 : u < s ∧ 0 < Wt u
        · rw [if_pos q2, if_pos ⟨by omega, q2.2⟩, fF_old q2.1]
        · rw [if_neg q2, if_neg (fun z => q2 ⟨by
            have : ¬ u = s := fun y => e (y ▸ z.2)
            omega, z.2⟩)]
    refine ⟨a1, fun hs2 => ?_⟩
    rw [tk (s + 1) hs2 a1.1]
theorem uU_le : ∀ s, s ≤ 8 → uU K Wt n s ≤ 8 := by
  intro s
  induction s with
  | zero => intro _; exact Nat.zero_le _
  | succ s ih =>
    intro hs
    unfold uU
    split
    · have := fF_le (K := K) (Wt := Wt) (n := n) (s + 1) hs s (by omega)
      rw [fF_new] at this
      have := ih (by omega)
      omega
    · exact ih (by omega)
end FW
section DJ
variable {L : Nat} {xs : Nat → Int32} {P : st_P} {S : Nat → sg_S} {h : am_H} {n m c : Nat}
theorem INV_given (hI : INVn n m c P S) {M : sg_S} {g : Nat → Int32} (hz : tz4 M) : INVn n m c P (va_up (va_up S 1 M) 16 ((S 16).1, va_up (S 16).2 19 g)) := by
  have := INV_text hI (M := M) (X := S 12) (D := ((S 16).1, va_up (S 16).2 19 g)) hz ⟨rfl, rfl, rfl, rfl⟩ (fun k hk => vu_ne _ _ (by omega)) hI.2.2.2.2.1
  have e : va_up (va_up S 1 M) 12 (S 12) = va_up S 1 M := by
    rw [show S 12 = va_up S 1 M 12 from (vu_ne _ _ (by omega)).symm, vu_id]
  rwa [e] at this
theorem both_fewest (hI : INVn n m c P S) : both L xs P S m_X4_fewest m_X5_fewest [] := by
  have hd := hI.1.1
  have hw := hI.1.2.2.1
  have hM := hI.1.2.2.2.1
  have h8 := hd.1.2
  have hZ := hI.2.2.2.2.2
  have hw1 : wfS (cpyM (S 1) (S 0)) n m c := cpy_wf (hZ 1 (by omega)) (hZ 0 (by omega)) hw
  have c5 : (cpyM (S 1) (S 0)).2 5 = (S 0).2 5 := cpy_5 (hZ 1 (by omega)) (hZ 0 (by omega))
  have c7 : (cpyM (S 1) (S 0)).2 7 = (S 0).2 7 := cpy_7 (hZ 1 (by omega)) (hZ 0 (by omega))
  generalize hC : cpyM (S 1) (S 0) = C at hw1 c5 c7
  have hfill : ∀ u, u < 8 → fillF 8 0 (C.2 8) u = 0 := fun u hu => by unfold fillF; rw [if_pos hu]
  have da := fun s hs => da_fF (K := (S 0).2 7) (Wt := (S 0).2 5) (n := n) h8 hfill s hs
  have dtz : ∀ s, s ≤ n → TZ (daL ((S 0).2 7) ((S 0).2 5) n (fillF 8 0 (C.2 8)) s).1 := by
    intro s
    induction s with
    | zero =>
      intro _ i hi
      show fillF 8 0 (C.2 8) i = 0
      unfold fillF
      rw [if_neg (by omega)]
      exact hw1.2.2.2.2.2.2.1 i hi
    | succ s ih =>
      intro hs i hi
      unfold daL
      split
      · show upd _ s _ i = 0
        rw [upd_ne _ _ (by omega)]
        exact ih (by omega) i hi
      · exact ih (by omega) i hi
  have hD : ∀ (h : am_H), 98 + 10 < h.1 → ∃ g, am_ok L xs m_X5_fewest [.ref 98] (ob sgD h 98 (S 16)) (some (nI (uU ((S 0).2 7) ((S 0).2 5) n n))) (ob sgD h 98 ((S 16).1, va_up (S 16).2 19 g)) := by
    intro h hc
    have nr : ∀ (g : Nat → Int32) (v : Nat), v < 8 → am_ok L xs m_X5_near [.ref 98, .int 0, .int (nI v)] (ob sgD h 98 ((S 16).1, va_up (S 16).2 19 g)) (some (near ((S 0).2 7) n v)) (ob sgD h 98 ((S 16).1, va_up (S 16).2 19 g)) := fun g v hv => by
      have := onB0 (D := ((S 16).1, va_up (S 16).2 19 g)) (ok_nearD (L := L) (xs := xs) (B := 0) (n := n) hc (by omega) hI.1.2.1.1 h8 hv)
      have e : seg (fun j => ((S 16).1, va_up (S 16).2 19 g).2 0 (0 + j)) 17 = (S 0).2 7 := hM.1.2.2.1
      rwa [e] at this
    have l4 : ∀ (g : Nat → Int32) {u : Nat}, u < 8 → am_lI (ob sgD h 98 ((S 16).1, va_up (S 16).2 19 g)) .int (98 + 2) (nI u) = some ((S 0).2 5 u) := fun g u hu => by
      rw [lD_4 hc hu]
      show some ((S 16).2 4 u) = _
      rw [hM.1.1]
    have main : ∀ s, s ≤ n → ∃ g, (∀ u, u < s → g u = nI (fF ((S 0).2 7) ((S 0).2 5) n s u)) ∧ ∀ (R : Option Int32) (A E : am_H), am_wa L xs m_X5_fewest A R E 4 [.ref 98, .int (nI (uU ((S 0).2 7) ((S 0).2 5) n s)), .int (nI s), .null, .null] [] (ob sgD h 98 ((S 16).1, va_up (S 16).2 19 g)) → am_wa L xs m_X5_fewest A R E 4 [.ref 98, .int (nI 0), .int (nI 0), .null, .null] [] (ob sgD h 98 (S 16)) := by
      intro s
      induction s with
      | zero =>
        intro _
        refine ⟨(S 16).2 19, fun u hu => by omega, fun R A E hwa => ?_⟩
        rw [vu_id] at hwa
        exact hwa
      | succ s ih =>
        intro hs
        obtain ⟨g, g1, g2⟩ := ih (by omega)
        have hs8 : s < 8 := by omega
        have hle := fF_le (K := (S 0).2 7) (Wt := (S 0).2 5) (n := n) (s + 1) (by omega) s (by omega)
        rw [fF_new] at hle
        have hu8 := uU_le (K := (S 0).2 7) (Wt := (S 0).2 5) (n := n) s (by omega)
        generalize hx : mT ((S 0).2 7) ((S 0).2 5) n (fF ((S 0).2 7) ((S 0).2 5) n s) s s = x at hle
        refine ⟨upd g s (nI (lfG x 8 0)), fun u hu => ?_, fun R A E hwa => g2 R A E (ch_X5_fewest_4 ?_)⟩
        · by_cases q : u = s
          · subst q
            rw [upd_at, fF_new, hx]
          · rw [upd_ne _ _ q, fF_old (by omega)]
            exact g1 u (by omega)
        · simp only [cD hc, gD_0 hc, gD_1 hc, gD_2 hc, gD_3 hc, gD_4 hc, gD_5 hc, gD_6 hc, gD_7 hc, gD_8 hc, gD_9 hc, gD_10 hc, gD_11 hc, gD_12 hc, gD_13 hc, gD_14 hc, gD_15 hc, gD_16 hc, gD_17 hc, gD_18 hc, gD_19 hc, pD_1 hc, pD_2 hc, pD_3 hc, pD_5 hc, pD_8 hc, pD_11 hc, pD_12 hc, pD_13 hc, pD_14 hc, pD_15 hc, am_b_some, hI.1.2.1.1]
          rw [if_pos (nI_lt (by omega) (by omega))]
          have key := up_to (P := fun j => am_wa L xs m_X5_fewest A R E 17 [.ref 98, .int (nI (uU ((S 0).2 7) ((S 0).2 5) n s)), .int (nI s), .int (mT ((S 0).2 7) ((S 0).2 5) n (fF ((S 0).2 7) ((S 0).2 5) n s) s j), .int (nI j)] [] (ob sgD h 98 ((S 16).1, va_up (S 16).2 19 g))) s ?_ ?_ 0 (by omega)
          · exact key
          · refine ch_X5_fewest_17 ?_
            rw [if_neg (nI_irr s), hx]
            have inner := up_to (P := fun k => lfG x 8 0 = lfG x (8 - k) k → k ≤ lfG x 8 0 → am_wa L xs m_X5_fewest A R E 72 [.ref 98, .int (nI (uU ((S 0).2 7) ((S 0).2 5) n s)), .int (nI s), .int x, .int (nI k)] [] (ob sgD h 98 ((S 16).1, va_up (S 16).2 19 g))) 8 ?_ ?_ 0 (by omega) rfl (by omega)
            · exact inner
            · intro _ z; omega
            · intro k hk ihk e1 e2
              refine ch_X5_fewest_72 ⟨_, _, ok_hasD (by omega), ?_⟩
              rw [show 8 - k = (8 - (k + 1)) + 1 by omega] at e1
              cases eb : bt x k
              · rw [if_pos (by rfl)]
                have ek : lfG x 8 0 = k := by
                  rw [e1]
                  unfold lfG
                  rw [eb]
                  rfl
                rw [ek] at hwa
                have l4' := l4 (upd g s (nI k)) hs8
                simp only [cD hc, gD_0 hc, gD_1 hc, gD_2 hc, gD_3 hc, gD_4 hc, gD_5 hc, gD_6 hc, gD_7 hc, gD_8 hc, gD_9 hc, gD_10 hc, gD_11 hc, gD_12 hc, gD_13 hc, gD_14 hc, gD_15 hc, gD_16 hc, gD_17 hc, gD_18 hc, gD_19 hc, pD_1 hc, pD_2 hc, pD_3 hc, pD_5 hc, pD_8 hc, pD_11 hc, pD_12 hc, pD_13 hc, pD_14 hc, pD_15 hc, am_b_some, sD_19 hc hs8, vu_at, vu_vu, l4']
                refine br2 (fun q => br2 (fun q2 => ?_) (fun q2 => ?_)) (fun q => ?_)
                · rw [show uU ((S 0).2 7) ((S 0).2 5) n (s + 1) = uU ((S 0).2 7) ((S 0).2 5) n s by
                    conv => lhs; unfold uU
                    rw [if_pos q, hx, ek]
                    have : k < uU ((S 0).2 7) ((S 0).2 5) n s := by
                      apply Classical.byContradiction
                      intro z
                      exact nI_nlt (a := k) (b := uU ((S 0).2 7) ((S 0).2 5) n s) (by omega) (by omega) q2
                    omega] at hwa
                  rw [← nI_succ]
                  exact hwa
                · rw [show uU ((S 0).2 7) ((S 0).2 5) n (s + 1) = k + 1 by
                    conv => lhs; unfold uU
                    rw [if_pos q, hx, ek]
                    have : ¬ k < uU ((S 0).2 7) ((S 0).2 5) n s := fun z => q2 (nI_lt z (by omega))
                    omega] at hwa
                  rw [← nI_succ, ← nI_succ]
                  exact hwa
                · rw [show uU ((S 0).2 7) ((S 0).2 5) n (s + 1) = uU ((S 0).2 7) ((S 0).2 5) n s by
                    conv => lhs; unfold uU
                    rw [if_neg q]] at hwa
                  rw [← nI_succ]
                  exact hwa
              · rw [if_neg (by decide), ← nI_succ]
                have e3 : lfG x (8 - (k + 1) + 1) k = lfG x (8 - (k + 1)) (k + 1) := by
                  show (if _ then _ else _) = _
                  rw [if_pos eb]
                refine ihk (e1.trans e3) ?_
                have : ¬ lfG x 8 0 = k := by
                  intro z
                  rw [e1, e3] at z
                  have ge : ∀ f j, j ≤ lfG x f j := by
                    intro f
                    induction f with
                    | zero => intro j; exact Nat.le_refl _
                    | succ f ihf =>
                      intro j
                      unfold lfG
                      split
                      · have := ihf (j + 1); omega
                      · exact Nat.le_refl _
                  have := ge (8 - (k + 1)) (k + 1)
                  omega
                omega
          · intro j hj ihj
            refine ch_X5_fewest_17 ?_
            rw [if_pos (nI_lt hj (by omega))]
            simp only [cD hc, gD_0 hc, gD_1 hc, gD_2 hc, gD_3 hc, gD_4 hc, gD_5 hc, gD_6 hc, gD_7 hc, gD_8 hc, gD_9 hc, gD_10 hc, gD_11 hc, gD_12 hc, gD_13 hc, gD_14 hc, gD_15 hc, gD_16 hc, gD_17 hc, gD_18 hc, gD_19 hc, pD_1 hc, pD_2 hc, pD_3 hc, pD_5 hc, pD_8 hc, pD_11 hc, pD_12 hc, pD_13 hc, pD_14 hc, pD_15 hc, am_b_some, l4 g (show j < 8 by omega)]
            refine br2 (fun q => ⟨_, _, nr g s hs8, _, _, ok_hasD (by omega), br2 (fun q2 => ?_) (fun q2 => ?_)⟩) (fun q => ?_)
            · rw [bz_ne] at q2
              rw [show mT ((S 0).2 7) ((S 0).2 5) n (fF ((S 0).2 7) ((S 0).2 5) n s) s (j + 1) = mT ((S 0).2 7) ((S 0).2 5) n (fF ((S 0).2 7) ((S 0).2 5) n s) s j by
                conv => lhs; unfold mT
                rw [if_neg (fun z => by rw [q2] at z; exact absurd z.2 (by decide))]] at ihj
              rw [← nI_succ, or_0]
              exact ihj
            · rw [bz_ne] at q2
              rw [show mT ((S 0).2 7) ((S 0).2 5) n (fF ((S 0).2 7) ((S 0).2 5) n s) s (j + 1) = mT ((S 0).2 7) ((S 0).2 5) n (fF ((S 0).2 7) ((S 0).2 5) n s) s j ||| ((1 : Int32) <<< (nI (fF ((S 0).2 7) ((S 0).2 5) n s j) &&& 31)) by
                conv => lhs; unfold mT
                rw [if_pos ⟨q, by simpa using q2⟩]] at ihj
              simp only [cD hc, gD_0 hc, gD_1 hc, gD_2 hc, gD_3 hc, gD_4 hc, gD_5 hc, gD_6 hc, gD_7 hc, gD_8 hc, gD_9 hc, gD_10 hc, gD_11 hc, gD_12 hc, gD_13 hc, gD_14 hc, gD_15 hc, gD_16 hc, gD_17 hc, gD_18 hc, gD_19 hc, pD_1 hc, pD_2 hc, pD_3 hc, pD_5 hc, pD_8 hc, pD_11 hc, pD_12 hc, pD_13 hc, pD_14 hc, pD_15 hc, am_b_some, lD_19 hc (show j < 8 by omega), vu_at, g1 j hj]
              rw [← nI_succ]
              exact ihj
            · rw [show mT ((S 0).2 7) ((S 0).2 5) n (fF ((S 0).2 7) ((S 0).2 5) n s) s (j + 1) = mT ((S 0).2 7) ((S 0).2 5) n (fF ((S 0).2 7) ((S 0).2 5) n s) s j by
                conv => lhs; unfold mT
                rw [if_neg (fun z => q z.1)]] at ihj
              rw [← nI_succ, or_0]
              exact ihj
    obtain ⟨g, g1, g2⟩ := main n (Nat.le_refl _)
    refine ⟨g, en_X5_fewest (cD hc) rfl rfl (ch_X5_fewest_0 (g2 _ _ _ (ch_X5_fewest_4 ?_)))⟩
    simp only [cD hc, gD_0 hc, gD_1 hc, gD_2 hc, gD_3 hc, gD_4 hc, gD_5 hc, gD_6 hc, gD_7 hc, gD_8 hc, gD_9 hc, gD_10 hc, gD_11 hc, gD_12 hc, gD_13 hc, gD_14 hc, gD_15 hc, gD_16 hc, gD_17 hc, gD_18 hc, gD_19 hc, pD_1 hc, pD_2 hc, pD_3 hc, pD_5 hc, pD_8 hc, pD_11 hc, pD_12 hc, pD_13 hc, pD_14 hc, pD_15 hc, am_b_some, hI.1.2.1.1]
    rw [if_neg (nI_irr n)]
    (first | exact ⟨fit_i _, rfl, rfl⟩ | exact ⟨fit_i _, rfl, trivial⟩ | exact ⟨fit_i _, trivial, rfl⟩ | exact ⟨fit_i _, trivial, trivial⟩)
  obtain ⟨g, hg⟩ := hD (HP P (va_up S 1 (C.1, va_up C.2 8 (daL ((S 0).2 7) ((S 0).2 5) n (fillF 8 0 (C.2 8)) n).1))) bD
  refine both_at (x := nI (uU ((S 0).2 7) ((S 0).2 5) n n)) (P' := P) (S1 := va_up S 1 (C.1, va_up C.2 8 (daL ((S 0).2 7) ((S 0).2 5) n (fillF 8 0 (C.2 8)) n).1)) (D' := ((S 16).1, va_up (S 16).2 19 g)) ⟨n, m, c, INV_given hI ?_⟩ (vu_ne _ _ (by omega)) ?_ hg
  · have tz := wf_tz hw1
    exact ⟨tz.1, tz.2.1, tz.2.2.1, dtz n (Nat.le_refl _)⟩
  · refine en_X4_fewest k_0 HP_12 HP_22 (ch_X4_fewest_0 ?_)
    simp only [f0_0, f0_1, am_b_some]
    refine ⟨_, cpy (jb := 1) (jc := 0) 8 1 (fun S N => foT) (fun S N => foN) (by omega) (by omega) (by omega) hw.2.2.1, ?_⟩
    rw [hC]
    simp only [f0_1, am_b_some]
    have call := onT (P := P) (S := va_up S 1 C) (ok_deal (L := L) (xs := xs) (n := n) bT (by rw [vu_at]; exact hw1.1.1) h8)
    rw [vu_vu, vu_at, c5, c7, (da n (Nat.le_refl _)).1.2] at call
    refine ⟨_, _, call, ?_⟩
    (first | exact ⟨fit_i _, rfl, rfl⟩ | exact ⟨fit_i _, rfl, trivial⟩ | exact ⟨fit_i _, trivial, rfl⟩ | exact ⟨fit_i _, trivial, trivial⟩)
end DJ
