/-! MESH: clashes, the fewest -/
def clG (K H : Nat → Int32) (n : Nat) (x : Int32) (u k : Nat) : Nat := if u < k ∧ bt (near K n u) k = true then pop ((H u &&& H k) &&& x) else 0
def clN (K H : Nat → Int32) (n : Nat) (x : Int32) : Nat := fb_sm (fun u => fb_sm (clG K H n x u) n) n
theorem clG_le (K H : Nat → Int32) (n : Nat) (x : Int32) (u k : Nat) : clG K H n x u k ≤ 8 := by
  unfold clG
  split
  · exact pop_le _
  · omega
theorem fb_sm_le8 {f : Nat → Nat} {c : Nat} (h : ∀ k, f k ≤ c) (n : Nat) : fb_sm f n ≤ n * c := fb_sm_bound (fun k _ => h k)
def tkL (K H : Nat → Int32) (n v : Nat) : Nat → Int32
  | 0 => 0
  | s + 1 => if bt (near K n v) s then tkL K H n v s ||| H s else tkL K H n v s
def lfG (x : Int32) : Nat → Nat → Nat
  | 0, k => k
  | f + 1, k => if bt x k then lfG x f (k + 1) else k
theorem lfG_le (x : Int32) : ∀ f k, lfG x f k ≤ k + f := by
  intro f
  induction f with
  | zero => intro k; exact Nat.le_refl _
  | succ f ih =>
    intro k
    unfold lfG
    split
    · have := ih (k + 1); omega
    · omega
def daL (K Wt : Nat → Int32) (n : Nat) (H : Nat → Int32) : Nat → (Nat → Int32) × Nat
  | 0 => (H, 0)
  | s + 1 => if 0 < Wt s then (upd (daL K Wt n H s).1 s ((1 : Int32) <<< (nI (lfG (tkL K (daL K Wt n H s).1 n s n) 8 0) &&& 31)), max (daL K Wt n H s).2 (lfG (tkL K (daL K Wt n H s).1 n s n) 8 0 + 1)) else daL K Wt n H s
theorem daL_le (K Wt : Nat → Int32) (n : Nat) (H : Nat → Int32) : ∀ s, (daL K Wt n H s).2 ≤ 9 := by
  intro s
  induction s with
  | zero => exact Nat.zero_le _
  | succ s ih =>
    unfold daL
    split
    · have := lfG_le (tkL K (daL K Wt n H s).1 n s n) 8 0
      show max _ _ ≤ 9
      omega
    · exact ih
theorem nI_max {a c : Nat} (ha : a < 2 ^ 31) (hc : c < 2 ^ 31) : (if nI a < nI c then nI c else nI a) = nI (max a c) := by
  rcases Nat.lt_or_ge a c with z | z
  · rw [if_pos (nI_lt z hc), Nat.max_eq_right (by omega)]
  · rw [if_neg (nI_nlt z ha), Nat.max_eq_left z]
section CL
variable {L : Nat} {xs : Nat → Int32} {h : am_H} {b n v s t : Nat} {M : sg_S}
theorem ok_clashesBy (hb : b + 6 < h.1) (hn : M.1 0 = nI n) (h8 : n ≤ 8) (hh : ∀ v, v < 8 → sm (M.2 8 v)) {x : Int32} : am_ok L xs m_X0_clashesBy [.ref b, .int x] (ob sgM h b M) (some (nI (clN (M.2 7) (M.2 8) n x))) (ob sgM h b M) := by
  refine en_X0_clashesBy (cM hb) rfl rfl (ch_X0_clashesBy_0 ?_)
  generalize hR : some (nI (clN (M.2 7) (M.2 8) n x)) = R
  have key := up_to (P := fun i => am_wa L xs m_X0_clashesBy (ob sgM h b M) R (ob sgM h b M) 4 [.ref b, .int x, .int (nI (fb_sm (fun u => fb_sm (clG (M.2 7) (M.2 8) n x u) n) i)), .int (nI i), .null, .null] [] (ob sgM h b M)) n ?_ ?_ 0 (by omega)
  · exact key
  · refine ch_X0_clashesBy_4 ?_
    simp only [cM hb, gM_0 hb, gM_1 hb, gM_2 hb, gM_3 hb, gM_4 hb, gM_5 hb, gM_6 hb, gM_7 hb, gM_8 hb, gM_9 hb, gM_10 hb, pM_0 hb, pM_1 hb, pM_2 hb, pM_3 hb, pM_4 hb, am_b_some, hn]
    rw [if_neg (nI_irr n)]
    first | exact ⟨fit_i _, hR, rfl⟩ | exact ⟨fit_i _, hR, trivial⟩
  · intro i hi ih
    have hi8 : i < 8 := by omega
    refine ch_X0_clashesBy_4 ?_
    simp only [cM hb, gM_0 hb, gM_1 hb, gM_2 hb, gM_3 hb, gM_4 hb, gM_5 hb, gM_6 hb, gM_7 hb, gM_8 hb, gM_9 hb, gM_10 hb, pM_0 hb, pM_1 hb, pM_2 hb, pM_3 hb, pM_4 hb, am_b_some, hn]
    rw [if_pos (nI_lt hi (by omega))]
    refine ⟨_, _, ok_near hb hn h8 hi8, ?_⟩
    have inner := up_to (P := fun j => i < j → am_wa L xs m_X0_clashesBy (ob sgM h b M) R (ob sgM h b M) 24 [.ref b, .int x, .int (nI (fb_sm (fun u => fb_sm (clG (M.2 7) (M.2 8) n x u) n) i + fb_sm (clG (M.2 7) (M.2 8) n x i) j)), .int (nI i), .int (near (M.2 7) n i), .int (nI j)] [] (ob sgM h b M)) n ?_ ?_ (i + 1) (by omega) (by omega)
    · have e0 : fb_sm (clG (M.2 7) (M.2 8) n x i) (i + 1) = 0 := by
        have := fb_sm_bound (f := clG (M.2 7) (M.2 8) n x i) (c := 0) (n := i + 1) (fun k hk => by unfold clG; rw [if_neg (by omega)]; exact Nat.le_refl _)
        omega
      rw [e0, Nat.add_zero, nI_succ i] at inner
      exact inner
    · intro _
      refine ch_X0_clashesBy_24 ?_
      simp only [cM hb, gM_0 hb, gM_1 hb, gM_2 hb, gM_3 hb, gM_4 hb, gM_5 hb, gM_6 hb, gM_7 hb, gM_8 hb, gM_9 hb, gM_10 hb, pM_0 hb, pM_1 hb, pM_2 hb, pM_3 hb, pM_4 hb, am_b_some, hn]
      rw [if_neg (nI_irr n), ← nI_succ]
      exact ih
    · intro j hj ihj hij
      have hj8 : j < 8 := by omega
      have ihj' := ihj (by omega)
      refine ch_X0_clashesBy_24 ?_
      simp only [cM hb, gM_0 hb, gM_1 hb, gM_2 hb, gM_3 hb, gM_4 hb, gM_5 hb, gM_6 hb, gM_7 hb, gM_8 hb, gM_9 hb, gM_10 hb, pM_0 hb, pM_1 hb, pM_2 hb, pM_3 hb, pM_4 hb, am_b_some, hn]
      rw [if_pos (nI_lt hj (by omega))]
      refine ⟨_, _, ok_has (by omega), br2 (fun c => ?_) (fun c => ?_)⟩
      · rw [bz_ne] at c
        rw [fb_sm_succ, show clG (M.2 7) (M.2 8) n x i j = 0 by unfold clG; rw [if_neg (by rw [c]; simp)], Nat.add_zero] at ihj'
        rw [← nI_succ]
        exact ihj'
      · rw [bz_ne] at c
        simp only [cM hb, gM_0 hb, gM_1 hb, gM_2 hb, gM_3 hb, gM_4 hb, gM_5 hb, gM_6 hb, gM_7 hb, gM_8 hb, gM_9 hb, gM_10 hb, pM_0 hb, pM_1 hb, pM_2 hb, pM_3 hb, pM_4 hb, lM_5 hb hi8, sM_5 hb hi8, lM_6 hb hi8, sM_6 hb hi8, lM_7 hb hi8, sM_7 hb hi8, lM_8 hb hi8, sM_8 hb hi8, lM_10 hb hi8, sM_10 hb hi8, lM_5 hb hj8, sM_5 hb hj8, lM_6 hb hj8, sM_6 hb hj8, lM_7 hb hj8, sM_7 hb hj8, lM_8 hb hj8, sM_8 hb hj8, lM_10 hb hj8, sM_10 hb hj8, am_b_some]
        refine ⟨_, _, ok_bitCount (sm_and (sm_and (hh i hi8))), ?_⟩
        rw [fb_sm_succ, show clG (M.2 7) (M.2 8) n x i j = pop ((M.2 8 i &&& M.2 8 j) &&& x) by unfold clG; rw [if_pos ⟨hij, by simpa using c⟩]] at ihj'
        rw [← nI_succ, nI_add, Nat.add_assoc]
        exact ihj'
theorem ok_clashes (hb : b + 6 < h.1) (hn : M.1 0 = nI n) (h8 : n ≤ 8) {m : Nat} (hm : M.1 1 = nI m) (hh : ∀ v, v < 8 → sm (M.2 8 v)) : am_ok L xs m_X0_clashes [.ref b] (ob sgM h b M) (some (nI (clN (M.2 7) (M.2 8) n (((1 : Int32) <<< (nI m &&& 31)) - 1)))) (ob sgM h b M) := by
  refine en_X0_clashes (cM hb) rfl rfl (ch_X0_clashes_0 ?_)
  simp only [cM hb, gM_0 hb, gM_1 hb, gM_2 hb, gM_3 hb, gM_4 hb, gM_5 hb, gM_6 hb, gM_7 hb, gM_8 hb, gM_9 hb, gM_10 hb, pM_0 hb, pM_1 hb, pM_2 hb, pM_3 hb, pM_4 hb, am_b_some, hm]
  refine ⟨_, _, ok_clashesBy hb hn h8 hh, ?_⟩
  (first | exact ⟨fit_i _, rfl, rfl⟩ | exact ⟨fit_i _, rfl, trivial⟩ | exact ⟨fit_i _, trivial, rfl⟩ | exact ⟨fit_i _, trivial, trivial⟩)
theorem ok_leastFree (hb : b + 6 < h.1) (hn : M.1 0 = nI n) (h8 : n ≤ 8) (hv : v < 8) : am_ok L xs m_X0_leastFree [.ref b, .int (nI v)] (ob sgM h b M) (some (nI (lfG (tkL (M.2 7) (M.2 8) n v n) 8 0))) (ob sgM h b M) := by
  refine en_X0_leastFree (cM hb) rfl rfl (ch_X0_leastFree_0 ⟨_, _, ok_near hb hn h8 hv, ?_⟩)
  generalize hR : some (nI (lfG (tkL (M.2 7) (M.2 8) n v n) 8 0)) = R
  have key := up_to (P := fun i => am_wa L xs m_X0_leastFree (ob sgM h b M) R (ob sgM h b M) 11 [.ref b, .null, .int (near (M.2 7) n v), .int (tkL (M.2 7) (M.2 8) n v i), .int (nI i)] [] (ob sgM h b M)) n ?_ ?_ 0 (by omega)
  · exact key
  · refine ch_X0_leastFree_11 ?_
    simp only [cM hb, gM_0 hb, gM_1 hb, gM_2 hb, gM_3 hb, gM_4 hb, gM_5 hb, gM_6 hb, gM_7 hb, gM_8 hb, gM_9 hb, gM_10 hb, pM_0 hb, pM_1 hb, pM_2 hb, pM_3 hb, pM_4 hb, am_b_some, hn]
    rw [if_neg (nI_irr n)]
    generalize tkL (M.2 7) (M.2 8) n v n = x at hR ⊢
    have inner := up_to (P := fun k => lfG x 8 0 = lfG x (8 - k) k → am_wa L xs m_X0_leastFree (ob sgM h b M) R (ob sgM h b M) 48 [.null, .null, .null, .int x, .int (nI k)] [] (ob sgM h b M)) 8 ?_ ?_ 0 (by omega) rfl
    · exact inner
    · intro e
      refine ch_X0_leastFree_48 ?_
      rw [if_neg (by decide +kernel)]
      exact ⟨fit_i _, by rw [← hR, e]; rfl, rfl⟩
    · intro k hk ih e
      refine ch_X0_leastFree_48 ?_
      rw [if_pos (show nI k < 8 from nI_lt (b := 8) hk (by omega))]
      rw [show 8 - k = (8 - (k + 1)) + 1 by omega] at e
      refine ⟨_, _, ok_has (by omega), br2 (fun c => ?_) (fun c => ?_)⟩
      · rw [bz_ne] at c
        have e2 : lfG x (8 - (k + 1) + 1) k = k := by unfold lfG; rw [c]; rfl
        exact ⟨fit_i _, by rw [← hR, e, e2], rfl⟩
      · rw [bz_ne] at c
        have e2 : lfG x (8 - (k + 1) + 1) k = lfG x (8 - (k + 1)) (k + 1) := by
          show (if _ then _ else _) = _
          rw [if_pos (by simpa using c)]
        rw [← nI_succ]
        exact ih (e.trans e2)
  · intro i hi ih
    have hi8 : i < 8 := by omega
    refine ch_X0_leastFree_11 ?_
    simp only [cM hb, gM_0 hb, gM_1 hb, gM_2 hb, gM_3 hb, gM_4 hb, gM_5 hb, gM_6 hb, gM_7 hb, gM_8 hb, gM_9 hb, gM_10 hb, pM_0 hb, pM_1 hb, pM_2 hb, pM_3 hb, pM_4 hb, am_b_some, hn]
    rw [if_pos (nI_lt hi (by omega))]
    refine ⟨_, _, ok_has (by omega), br2 (fun c => ?_) (fun c => ?_)⟩
    · rw [bz_ne] at c
      simp only [tkL, c] at ih
      rw [← nI_succ]
      exact ih
    · rw [bz_ne] at c
      simp only [cM hb, gM_0 hb, gM_1 hb, gM_2 hb, gM_3 hb, gM_4 hb, gM_5 hb, gM_6 hb, gM_7 hb, gM_8 hb, gM_9 hb, gM_10 hb, pM_0 hb, pM_1 hb, pM_2 hb, pM_3 hb, pM_4 hb, lM_5 hb hi8, sM_5 hb hi8, lM_6 hb hi8, sM_6 hb hi8, lM_7 hb hi8, sM_7 hb hi8, lM_8 hb hi8, sM_8 hb hi8, lM_10 hb hi8, sM_10 hb hi8, am_b_some]
      simp only [tkL, show bt (near (M.2 7) n v) i = true by simpa using c, if_true] at ih
      rw [← nI_succ]
      exact ih
theorem ok_deal (hb : b + 6 < h.1) (hn : M.1 0 = nI n) (h8 : n ≤ 8) : am_ok L xs m_X0_dealOneSlotEach [.ref b] (ob sgM h b M) (some (nI (daL (M.2 7) (M.2 5) n (fillF 8 0 (M.2 8)) n).2)) (ob sgM h b (M.1, va_up M.2 8 (daL (M.2 7) (M.2 5) n (fillF 8 0 (M.2 8)) n).1)) := by
  refine en_X0_dealOneSlotEach (cM hb) rfl rfl (ch_X0_dealOneSlotEach_0 ?_)
  simp only [cM hb, gM_0 hb, gM_1 hb, gM_2 hb, gM_3 hb, gM_4 hb, gM_5 hb, gM_6 hb, gM_7 hb, gM_8 hb, gM_9 hb, gM_10 hb, pM_0 hb, pM_1 hb, pM_2 hb, pM_3 hb, pM_4 hb, am_b_some]
  refine ⟨_, ok_fill (σ := sgM) (k := 8) (j := 3) (n := 8) rfl rfl (by decide) (by decide) (by decide) (by omega), ?_⟩
  have key := up_to (P := fun i => am_wa L xs m_X0_dealOneSlotEach (ob sgM h b M) (some (nI (daL (M.2 7) (M.2 5) n (fillF 8 0 (M.2 8)) n).2)) (ob sgM h b (M.1, va_up M.2 8 (daL (M.2 7) (M.2 5) n (fillF 8 0 (M.2 8)) n).1)) 12 [.ref b, .int (nI (daL (M.2 7) (M.2 5) n (fillF 8 0 (M.2 8)) i).2), .int (nI i), .null] [] (ob sgM h b (M.1, va_up M.2 8 (daL (M.2 7) (M.2 5) n (fillF 8 0 (M.2 8)) i).1))) n ?_ ?_ 0 (by omega)
  · exact key
  · refine ch_X0_dealOneSlotEach_12 ?_
    simp only [cM hb, gM_0 hb, gM_1 hb, gM_2 hb, gM_3 hb, gM_4 hb, gM_5 hb, gM_6 hb, gM_7 hb, gM_8 hb, gM_9 hb, gM_10 hb, pM_0 hb, pM_1 hb, pM_2 hb, pM_3 hb, pM_4 hb, am_b_some, hn]
    rw [if_neg (nI_irr n)]
    (first | exact ⟨fit_i _, rfl, rfl⟩ | exact ⟨fit_i _, rfl, trivial⟩ | exact ⟨fit_i _, trivial, rfl⟩ | exact ⟨fit_i _, trivial, trivial⟩)
  · intro i hi ih
    have hi8 : i < 8 := by omega
    refine ch_X0_dealOneSlotEach_12 ?_
    simp only [cM hb, gM_0 hb, gM_1 hb, gM_2 hb, gM_3 hb, gM_4 hb, gM_5 hb, gM_6 hb, gM_7 hb, gM_8 hb, gM_9 hb, gM_10 hb, pM_0 hb, pM_1 hb, pM_2 hb, pM_3 hb, pM_4 hb, lM_5 hb hi8, sM_5 hb hi8, lM_6 hb hi8, sM_6 hb hi8, lM_7 hb hi8, sM_7 hb hi8, lM_8 hb hi8, sM_8 hb hi8, lM_10 hb hi8, sM_10 hb hi8, am_b_some, hn, vu_ne _ _ (show ¬ 5 = 8 by decide)]
    rw [if_pos (nI_lt hi (by omega))]
    refine br2 (fun c => ?_) (fun c => ?_)
    · refine ⟨_, _, ok_leastFree (M := (M.1, va_up M.2 8 (daL (M.2 7) (M.2 5) n (fillF 8 0 (M.2 8)) i).1)) hb hn h8 hi8, ?_⟩
      simp only [vu_at, vu_ne _ _ (show ¬ 7 = 8 by decide)]
      have q1 := daL_le (M.2 7) (M.2 5) n (fillF 8 0 (M.2 8)) i
      have q2 := lfG_le (tkL (M.2 7) (daL (M.2 7) (M.2 5) n (fillF 8 0 (M.2 8)) i).1 n i n) 8 0
      simp only [daL, if_pos c] at ih
      simp only [cM hb, gM_0 hb, gM_1 hb, gM_2 hb, gM_3 hb, gM_4 hb, gM_5 hb, gM_6 hb, gM_7 hb, gM_8 hb, gM_9 hb, gM_10 hb, pM_0 hb, pM_1 hb, pM_2 hb, pM_3 hb, pM_4 hb, lM_5 hb hi8, sM_5 hb hi8, lM_6 hb hi8, sM_6 hb hi8, lM_7 hb hi8, sM_7 hb hi8, lM_8 hb hi8, sM_8 hb hi8, lM_10 hb hi8, sM_10 hb hi8, am_b_some, vu_at, vu_vu]
      rw [← nI_succ, ← nI_succ, nI_max (by omega) (by omega)]
      exact ih
    · simp only [daL, if_neg c] at ih
      rw [← nI_succ]
      exact ih
end CL
