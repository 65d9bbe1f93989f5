/-! MESH: the cycle -/
def contF (K Wt H : Nat → Int32) (n s : Nat) : Int32 := bs (fun v => !cov Wt H v && !bt (holders H n s) v && decide (near K n v &&& holders H n s = 0)) n
theorem bt_mask : ∀ n, n < 9 → ∀ i, i < 32 → bt (((1 : Int32) <<< (nI n &&& 31)) - 1) i = decide (i < n) := by decide +kernel
theorem bt_not {x : Int32} {i : Nat} (hi : i < 32) : bt (x ^^^ (-1)) i = !bt x i := by
  rw [b_xor, b_m1 i hi]; simp
theorem cont_eq (K Wt H : Nat → Int32) {n s : Nat} (h8 : n ≤ 8) : (((covered Wt H n ||| holders H n s) ||| nearTo K n (holders H n s)) ^^^ (-1)) &&& (((1 : Int32) <<< (nI n &&& 31)) - 1) = contF K Wt H n s := by
  apply b_ext
  intro i hi
  rw [b_and, bt_not hi, b_or, b_or, bt_mask n (by omega) i hi]
  unfold contF covered nearTo
  rw [bt_bs _ (by omega) hi, bt_bs _ (by omega) hi, bt_bs _ (by omega) hi]
  by_cases q : i < n
  · simp only [q, decide_true, Bool.true_and, Bool.and_true]
    cases cov Wt H i <;> cases bt (holders H n s) i <;> by_cases z : near K n i &&& holders H n s = 0 <;> simp [z]
  · simp [q]
def askL (Sh : Nat → Int32) (C l : Int32) : Nat → Int32 × Int32
  | 0 => (0, l)
  | s + 1 => if bt C s then (if lotV (lotS (askL Sh C l s).2) 16 < Sh s then ((askL Sh C l s).1 ||| (1 : Int32) <<< (nI s &&& 31), lotS (askL Sh C l s).2) else ((askL Sh C l s).1, lotS (askL Sh C l s).2)) else askL Sh C l s
def drL (C d l : Int32) (f : Nat → Int32) : Nat → (Nat → Int32) × Int32
  | 0 => (f, l)
  | s + 1 => if bt C s then (upd (drL C d l f s).1 s (lotV (lotS (drL C d l f s).2) 8), lotS (drL C d l f s).2) else (upd (drL C d l f s).1 s d, (drL C d l f s).2)
def seF (K : Nat → Int32) (n t : Nat) (an : Int32) (f : Nat → Int32) (lot : Int32) (s : Nat) (p : (Nat → Int32) × Int32) : (Nat → Int32) × Int32 :=
  if f s = lot ∧ (¬ K s &&& an = 0) ∧ near K n s &&& holders p.1 n t = 0 then (upd p.1 s (p.1 s ||| (1 : Int32) <<< (nI t &&& 31)), p.2 ||| (1 : Int32) <<< (nI s &&& 31)) else p
def seI (K : Nat → Int32) (n t : Nat) (an : Int32) (f : Nat → Int32) (lot : Int32) (p : (Nat → Int32) × Int32) : Nat → (Nat → Int32) × Int32
  | 0 => p
  | s + 1 => seF K n t an f lot s (seI K n t an f lot p s)
def seO (K : Nat → Int32) (n t : Nat) (an : Int32) (f H : Nat → Int32) : Nat → (Nat → Int32) × Int32
  | 0 => (H, 0)
  | j + 1 => seI K n t an f (nI (7 - j)) (seO K n t an f H j) n
def joF (K : Nat → Int32) (n : Nat) (se : Int32) : Int32 := hearing K n (nearTo K n se) 1 &&& ((nearTo K n se ||| se) ^^^ (-1))
def shL (K : Nat → Int32) (n : Nat) (a se : Int32) (f : Nat → Int32) : Nat → (Nat → Int32)
  | 0 => f
  | s + 1 => if bt a s then (if bt se s then shL K n a se f s else upd (shL K n a se f s) s (if 1 < shL K n a se f s s / 2 then shL K n a se f s s / 2 else 1)) else (if bt (joF K n se) s then upd (shL K n a se f s) s (if shL K n a se f s s * 2 < 16 then shL K n a se f s s * 2 else 16) else shL K n a se f s)
section CY
variable {L : Nat} {xs : Nat → Int32} {h : am_H} {b n v s t : Nat} {M : sg_S}
theorem ok_contenders (hb : b + 6 < h.1) (hn : M.1 0 = nI n) (h8 : n ≤ 8) (hh : ∀ v, v < 8 → sm (M.2 8 v)) (hs : s < 32) : am_ok L xs m_X0_contenders [.ref b, .int (nI s)] (ob sgM h b M) (some (contF (M.2 7) (M.2 5) (M.2 8) n s)) (ob sgM h b M) := by
  refine en_X0_contenders (cM hb) rfl rfl (ch_X0_contenders_0 ⟨_, _, ok_holders hb hn h8 hs, _, _, ok_covered hb hn h8 hh, _, _, ok_nearToAny hb hn h8, ?_⟩)
  simp only [cM hb, gM_0 hb, gM_1 hb, gM_2 hb, gM_3 hb, gM_4 hb, gM_5 hb, gM_6 hb, gM_7 hb, gM_8 hb, gM_9 hb, gM_10 hb, pM_0 hb, pM_1 hb, pM_2 hb, pM_3 hb, pM_4 hb, am_b_some, hn]
  rw [cont_eq _ _ _ h8]
  (first | exact ⟨fit_i _, rfl, rfl⟩ | exact ⟨fit_i _, rfl, trivial⟩ | exact ⟨fit_i _, trivial, rfl⟩ | exact ⟨fit_i _, trivial, trivial⟩)
theorem ok_ask (hb : b + 6 < h.1) (hn : M.1 0 = nI n) (h8 : n ≤ 8) {C : Int32} : am_ok L xs m_X0_ask [.ref b, .int C] (ob sgM h b M) (some (askL (M.2 6) C (M.1 3) n).1) (ob sgM h b (upd M.1 3 (askL (M.2 6) C (M.1 3) n).2, M.2)) := by
  refine en_X0_ask (cM hb) rfl rfl (ch_X0_ask_0 ?_)
  have key := up_to (P := fun i => am_wa L xs m_X0_ask (ob sgM h b M) (some (askL (M.2 6) C (M.1 3) n).1) (ob sgM h b (upd M.1 3 (askL (M.2 6) C (M.1 3) n).2, M.2)) 4 [.ref b, .int C, .int (askL (M.2 6) C (M.1 3) i).1, .int (nI i)] [] (ob sgM h b (upd M.1 3 (askL (M.2 6) C (M.1 3) i).2, M.2))) n ?_ ?_ 0 (by omega)
  · simp only [askL, upd_id] at key
    exact key
  · refine ch_X0_ask_4 ?_
    simp only [cM hb, gM_0 hb, gM_1 hb, gM_2 hb, gM_3 hb, gM_4 hb, gM_5 hb, gM_6 hb, gM_7 hb, gM_8 hb, gM_9 hb, gM_10 hb, pM_0 hb, pM_1 hb, pM_2 hb, pM_3 hb, pM_4 hb, am_b_some, upd_ne _ _ (show ¬ 0 = 3 by decide), hn]
    rw [if_neg (nI_irr n)]
    (first | exact ⟨fit_i _, rfl, rfl⟩ | exact ⟨fit_i _, rfl, trivial⟩ | exact ⟨fit_i _, trivial, rfl⟩ | exact ⟨fit_i _, trivial, trivial⟩)
  · intro i hi ih
    have hi8 : i < 8 := by omega
    refine ch_X0_ask_4 ?_
    simp only [cM hb, gM_0 hb, gM_1 hb, gM_2 hb, gM_3 hb, gM_4 hb, gM_5 hb, gM_6 hb, gM_7 hb, gM_8 hb, gM_9 hb, gM_10 hb, pM_0 hb, pM_1 hb, pM_2 hb, pM_3 hb, pM_4 hb, am_b_some, upd_ne _ _ (show ¬ 0 = 3 by decide), hn]
    rw [if_pos (nI_lt hi (by omega))]
    refine ⟨_, _, ok_has (by omega), br2 (fun c => ?_) (fun c => ?_)⟩
    · rw [bz_ne] at c
      rw [← nI_succ, show askL (M.2 6) C (M.1 3) i = askL (M.2 6) C (M.1 3) (i + 1) by simp [askL, c]]
      exact ih
    · rw [bz_ne] at c
      refine ⟨_, _, ok_drawLot hb (by decide +kernel) (by decide +kernel), ?_⟩
      simp only [cM hb, gM_0 hb, gM_1 hb, gM_2 hb, gM_3 hb, gM_4 hb, gM_5 hb, gM_6 hb, gM_7 hb, gM_8 hb, gM_9 hb, gM_10 hb, pM_0 hb, pM_1 hb, pM_2 hb, pM_3 hb, pM_4 hb, lM_5 hb hi8, sM_5 hb hi8, lM_6 hb hi8, sM_6 hb hi8, lM_7 hb hi8, sM_7 hb hi8, lM_8 hb hi8, sM_8 hb hi8, lM_10 hb hi8, sM_10 hb hi8, am_b_some, upd_at, upd_upd]
      refine br2 (fun d => ?_) (fun d => ?_)
      · have e : askL (M.2 6) C (M.1 3) (i + 1) = ((askL (M.2 6) C (M.1 3) i).1 ||| (1 : Int32) <<< (nI i &&& 31), lotS (askL (M.2 6) C (M.1 3) i).2) := by
          show (if _ then _ else _) = _
          rw [if_pos (by simpa using c), if_pos d]
        rw [e] at ih
        rw [← nI_succ]
        exact ih
      · have e : askL (M.2 6) C (M.1 3) (i + 1) = ((askL (M.2 6) C (M.1 3) i).1, lotS (askL (M.2 6) C (M.1 3) i).2) := by
          show (if _ then _ else _) = _
          rw [if_pos (by simpa using c), if_neg d]
        rw [e] at ih
        rw [← nI_succ]
        exact ih
theorem ok_settle (hb : b + 6 < h.1) (hn : M.1 0 = nI n) (h8 : n ≤ 8) (ht : t < 4) {C an : Int32} : am_ok L xs m_X0_settle [.ref b, .int (nI t), .int C, .int an] (ob sgM h b M) (some (seO (M.2 7) n t an (drL C (-1) (M.1 3) (M.2 10) n).1 (M.2 8) 8).2) (ob sgM h b (upd M.1 3 (drL C (-1) (M.1 3) (M.2 10) n).2, va_up (va_up M.2 10 (drL C (-1) (M.1 3) (M.2 10) n).1) 8 (seO (M.2 7) n t an (drL C (-1) (M.1 3) (M.2 10) n).1 (M.2 8) 8).1)) := by
  refine en_X0_settle (cM hb) rfl rfl (ch_X0_settle_0 ?_)
  generalize hR : some (seO (M.2 7) n t an (drL C (-1) (M.1 3) (M.2 10) n).1 (M.2 8) 8).2 = R
  generalize hE : ob sgM h b (upd M.1 3 (drL C (-1) (M.1 3) (M.2 10) n).2, va_up (va_up M.2 10 (drL C (-1) (M.1 3) (M.2 10) n).1) 8 (seO (M.2 7) n t an (drL C (-1) (M.1 3) (M.2 10) n).1 (M.2 8) 8).1) = E
  have key := up_to (P := fun i => am_wa L xs m_X0_settle (ob sgM h b M) R E 3 [.ref b, .int (nI t), .int C, .int an, .int (nI i), .null, .null] [] (ob sgM h b (upd M.1 3 (drL C (-1) (M.1 3) (M.2 10) i).2, va_up M.2 10 (drL C (-1) (M.1 3) (M.2 10) i).1))) n ?_ ?_ 0 (by omega)
  · simp only [drL, upd_id, vu_id] at key
    exact key
  · refine ch_X0_settle_3 ?_
    simp only [cM hb, gM_0 hb, gM_1 hb, gM_2 hb, gM_3 hb, gM_4 hb, gM_5 hb, gM_6 hb, gM_7 hb, gM_8 hb, gM_9 hb, gM_10 hb, pM_0 hb, pM_1 hb, pM_2 hb, pM_3 hb, pM_4 hb, am_b_some, upd_ne _ _ (show ¬ 0 = 3 by decide), hn]
    rw [if_neg (nI_irr n)]
    -- the lots, from 7 down
    obtain ⟨f, hf⟩ : ∃ f, f = (drL C (-1) (M.1 3) (M.2 10) n).1 := ⟨_, rfl⟩
    obtain ⟨l, hl⟩ : ∃ l, l = (drL C (-1) (M.1 3) (M.2 10) n).2 := ⟨_, rfl⟩
    rw [← hf, ← hl] at hE ⊢
    rw [← hf] at hR
    have outer := up_to (P := fun j => am_wa L xs m_X0_settle (ob sgM h b M) R E 51 [.ref b, .int (nI t), .null, .int an, .int (seO (M.2 7) n t an f (M.2 8) j).2, .int (nI 7 - nI j), .null] [] (ob sgM h b (upd M.1 3 l, va_up (va_up M.2 10 f) 8 (seO (M.2 7) n t an f (M.2 8) j).1))) 8 ?_ ?_ 0 (by omega)
    · have e0 : va_up (va_up M.2 10 f) 8 (M.2 8) = va_up M.2 10 f := by
        have := vu_id (va_up M.2 10 f) 8
        rwa [vu_ne _ _ (show ¬ 8 = 10 by decide)] at this
      simp only [seO, e0] at outer
      exact outer
    · refine ch_X0_settle_51 ?_
      rw [if_pos (show nI 7 - nI 8 < 0 by decide +kernel)]
      exact ⟨fit_i _, hR, hE⟩
    · intro j hj ihj
      refine ch_X0_settle_51 ?_
      rw [if_neg (show ¬ nI 7 - nI j < 0 by rw [pk_sub (by omega)]; exact nI_pos (by omega)), pk_sub (show j ≤ 7 by omega)]
      have inner := up_to (P := fun i => am_wa L xs m_X0_settle (ob sgM h b M) R E 59 [.ref b, .int (nI t), .null, .int an, .int (seI (M.2 7) n t an f (nI (7 - j)) (seO (M.2 7) n t an f (M.2 8) j) i).2, .int (nI (7 - j)), .int (nI i)] [] (ob sgM h b (upd M.1 3 l, va_up (va_up M.2 10 f) 8 (seI (M.2 7) n t an f (nI (7 - j)) (seO (M.2 7) n t an f (M.2 8) j) i).1))) n ?_ ?_ 0 (by omega)
      · exact inner
      · refine ch_X0_settle_59 ?_
        simp only [cM hb, gM_0 hb, gM_1 hb, gM_2 hb, gM_3 hb, gM_4 hb, gM_5 hb, gM_6 hb, gM_7 hb, gM_8 hb, gM_9 hb, gM_10 hb, pM_0 hb, pM_1 hb, pM_2 hb, pM_3 hb, pM_4 hb, am_b_some, upd_ne _ _ (show ¬ 0 = 3 by decide), hn]
        rw [if_neg (nI_irr n)]
        have e1 : nI (7 - j) + (-1) = nI 7 - nI (j + 1) := by
          rcases Nat.lt_or_ge j 7 with z | z
          · rw [sb_m1 (by omega), pk_sub (by omega)]
            congr 1
          · have : j = 7 := by omega
            subst this
            decide +kernel
        rw [e1]
        exact ihj
      · intro i hi ihi
        have hi8 : i < 8 := by omega
        generalize hp : seI (M.2 7) n t an f (nI (7 - j)) (seO (M.2 7) n t an f (M.2 8) j) i = p at ihi ⊢
        have hs : seI (M.2 7) n t an f (nI (7 - j)) (seO (M.2 7) n t an f (M.2 8) j) (i + 1) = seF (M.2 7) n t an f (nI (7 - j)) i p := by rw [← hp]; rfl
        rw [hs] at ihi
        have hn' : (upd M.1 3 l) 0 = nI n := by rw [upd_ne _ _ (show ¬ 0 = 3 by decide)]; exact hn
        refine ch_X0_settle_59 ?_
        simp only [cM hb, gM_0 hb, gM_1 hb, gM_2 hb, gM_3 hb, gM_4 hb, gM_5 hb, gM_6 hb, gM_7 hb, gM_8 hb, gM_9 hb, gM_10 hb, pM_0 hb, pM_1 hb, pM_2 hb, pM_3 hb, pM_4 hb, lM_5 hb hi8, sM_5 hb hi8, lM_6 hb hi8, sM_6 hb hi8, lM_7 hb hi8, sM_7 hb hi8, lM_8 hb hi8, sM_8 hb hi8, lM_10 hb hi8, sM_10 hb hi8, am_b_some, hn', vu_at, vu_ne _ _ (show ¬ 10 = 8 by decide), vu_ne _ _ (show ¬ 7 = 8 by decide), vu_ne _ _ (show ¬ 7 = 10 by decide)]
        rw [if_pos (nI_lt hi (by omega))]
        refine br2 (fun c1 => br2 (fun c2 => ?_) (fun c2 => ⟨_, _, ok_near hb hn' h8 hi8, _, _, ok_holders hb hn' h8 (by omega), br2 (fun c3 => ?_) (fun c3 => ?_)⟩)) (fun c1 => ?_)
        · rw [seF, if_neg (fun z => z.2.1 c2)] at ihi
          rw [← nI_succ]
          exact ihi
        · rw [seF, if_pos ⟨c1, c2, c3⟩] at ihi
          simp only [cM hb, gM_0 hb, gM_1 hb, gM_2 hb, gM_3 hb, gM_4 hb, gM_5 hb, gM_6 hb, gM_7 hb, gM_8 hb, gM_9 hb, gM_10 hb, pM_0 hb, pM_1 hb, pM_2 hb, pM_3 hb, pM_4 hb, lM_5 hb hi8, sM_5 hb hi8, lM_6 hb hi8, sM_6 hb hi8, lM_7 hb hi8, sM_7 hb hi8, lM_8 hb hi8, sM_8 hb hi8, lM_10 hb hi8, sM_10 hb hi8, am_b_some, vu_at, vu_vu]
          rw [← nI_succ]
          exact ihi
        · rw [seF, if_neg (fun z => c3 z.2.2)] at ihi
          rw [← nI_succ]
          exact ihi
        · rw [seF, if_neg (fun z => c1 z.1)] at ihi
          rw [← nI_succ]
          exact ihi
  · intro i hi ih
    have hi8 : i < 8 := by omega
    refine ch_X0_settle_3 ?_
    simp only [cM hb, gM_0 hb, gM_1 hb, gM_2 hb, gM_3 hb, gM_4 hb, gM_5 hb, gM_6 hb, gM_7 hb, gM_8 hb, gM_9 hb, gM_10 hb, pM_0 hb, pM_1 hb, pM_2 hb, pM_3 hb, pM_4 hb, am_b_some, upd_ne _ _ (show ¬ 0 = 3 by decide), hn]
    rw [if_pos (nI_lt hi (by omega))]
    refine ⟨_, _, ok_has (by omega), br2 (fun c => ?_) (fun c => ?_)⟩
    · rw [bz_ne] at c
      simp only [cM hb, gM_0 hb, gM_1 hb, gM_2 hb, gM_3 hb, gM_4 hb, gM_5 hb, gM_6 hb, gM_7 hb, gM_8 hb, gM_9 hb, gM_10 hb, pM_0 hb, pM_1 hb, pM_2 hb, pM_3 hb, pM_4 hb, lM_5 hb hi8, sM_5 hb hi8, lM_6 hb hi8, sM_6 hb hi8, lM_7 hb hi8, sM_7 hb hi8, lM_8 hb hi8, sM_8 hb hi8, lM_10 hb hi8, sM_10 hb hi8, am_b_some, vu_at, vu_vu]
      simp only [drL, c] at ih
      rw [← nI_succ]
      exact ih
    · rw [bz_ne] at c
      refine ⟨_, _, ok_drawLot hb (by decide +kernel) (by decide +kernel), ?_⟩
      simp only [cM hb, gM_0 hb, gM_1 hb, gM_2 hb, gM_3 hb, gM_4 hb, gM_5 hb, gM_6 hb, gM_7 hb, gM_8 hb, gM_9 hb, gM_10 hb, pM_0 hb, pM_1 hb, pM_2 hb, pM_3 hb, pM_4 hb, lM_5 hb hi8, sM_5 hb hi8, lM_6 hb hi8, sM_6 hb hi8, lM_7 hb hi8, sM_7 hb hi8, lM_8 hb hi8, sM_8 hb hi8, lM_10 hb hi8, sM_10 hb hi8, am_b_some, upd_at, upd_upd, vu_at, vu_vu]
      simp only [drL, show bt C i = true by simpa using c, if_true] at ih
      rw [← nI_succ]
      exact ih
end CY
