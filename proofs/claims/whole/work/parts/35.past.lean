/-! MESHES COPIED, THE PAST OF BOTH -/
theorem cpy8 {f g : Nat → Int32} (hf : TZ f) (hg : TZ g) : va_cpy f g 0 0 8 = f := by
  funext i
  unfold va_cpy
  by_cases q : i < 8
  · rw [if_pos ⟨Nat.zero_le _, by omega⟩, Nat.sub_zero, Nat.zero_add]
  · rw [if_neg (by omega), hf i (by omega), hg i (by omega)]
theorem cpy_1 (M N : sg_S) {k : Nat} (hk : k < 5) : (cpyM M N).1 k = N.1 k := by
  have : k = 0 ∨ k = 1 ∨ k = 2 ∨ k = 3 ∨ k = 4 := by omega
  rcases this with rfl | rfl | rfl | rfl | rfl <;> rfl
theorem cpy_5 {M N : sg_S} (hM : tz4 M) (hN : tz4 N) : (cpyM M N).2 5 = N.2 5 := by
  show va_cpy (N.2 5) (M.2 5) 0 0 8 = _
  exact cpy8 hN.1 hM.1
theorem cpy_6 {M N : sg_S} (hM : tz4 M) (hN : tz4 N) : (cpyM M N).2 6 = N.2 6 := by
  show va_cpy (N.2 6) (M.2 6) 0 0 8 = _
  exact cpy8 hN.2.1 hM.2.1
theorem cpy_7 {M N : sg_S} (hM : tz4 M) (hN : tz4 N) : (cpyM M N).2 7 = N.2 7 := by
  show va_cpy (N.2 7) (M.2 7) 0 0 8 = _
  exact cpy8 hN.2.2.1 hM.2.2.1
theorem cpy_8 {M N : sg_S} (hM : tz4 M) (hN : tz4 N) : (cpyM M N).2 8 = N.2 8 := by
  show va_cpy (N.2 8) (M.2 8) 0 0 8 = _
  exact cpy8 hN.2.2.2 hM.2.2.2
theorem cpy_9 (M N : sg_S) {p : Nat} (hp : p < 5) : (cpyM M N).2 9 p = N.2 9 p := by
  show va_cpy (N.2 9) (M.2 9) 0 0 5 p = _
  unfold va_cpy
  rw [if_pos ⟨Nat.zero_le _, by omega⟩, Nat.sub_zero, Nat.zero_add]
theorem cpy_tz {M N : sg_S} (hM : tz4 M) (hN : tz4 N) : tz4 (cpyM M N) := by
  unfold tz4
  rw [cpy_5 hM hN, cpy_6 hM hN, cpy_7 hM hN, cpy_8 hM hN]
  exact hN
theorem cpy_wf {n m c : Nat} {M N : sg_S} (hM : tz4 M) (hN : tz4 N) (h : wfS N n m c) : wfS (cpyM M N) n m c := by
  unfold wfS
  rw [cpy_5 hM hN, cpy_6 hM hN, cpy_7 hM hN, cpy_8 hM hN]
  simp only [cpy_1 M N (show 0 < 5 by omega), cpy_1 M N (show 1 < 5 by omega), cpy_1 M N (show 2 < 5 by omega), cpy_1 M N (show 3 < 5 by omega), cpy_1 M N (show 4 < 5 by omega)]
  exact h
theorem cpy_bOf {M N D : sg_S} {k : Nat → Int32} (hM : tz4 M) (hN : tz4 N) (h : bOf N D k) : bOf (cpyM M N) D k := by
  unfold bOf mOf
  rw [cpy_5 hM hN, cpy_6 hM hN, cpy_7 hM hN, cpy_8 hM hN, cpy_1 M N (show 3 < 5 by omega), cpy_1 M N (show 4 < 5 by omega)]
  exact ⟨h.1, h.2.1, fun z p hp => by rw [cpy_9 M N hp]; exact h.2.2 z p hp⟩
theorem cpy_iM {n m c : Nat} {M N D : sg_S} {k : Nat → Int32} (hM : tz4 M) (hN : tz4 N) (h : iM n m c N D k) : iM n m c (cpyM M N) D k := ⟨cpy_wf hM hN h.1, cpy_bOf hM hN h.2⟩
theorem wf_tz {n m c : Nat} {M : sg_S} (h : wfS M n m c) : tz4 M := ⟨h.2.2.2.1, h.2.2.2.2.1.1, h.2.2.2.2.2.1.1, h.2.2.2.2.2.2.1⟩
-- what keepPast leaves
theorem pastD_1 (D : sg_S) (u : Nat) {k : Nat} (hk : ¬ k = 5) : (pastD D u).1 k = D.1 k := by
  unfold pastD
  by_cases q : u < 8
  · rw [if_pos q, dB_1]; exact upd_ne _ _ hk
  · rw [if_neg q, dB_1]; exact upd_ne _ _ hk
theorem pastD_5 (D : sg_S) (u : Nat) (hu : u ≤ 8) : (pastD D u).1 5 = nI (min 8 (u + 1)) := by
  unfold pastD
  by_cases q : u < 8
  · rw [if_pos q, dB_1, show min 8 (u + 1) = u + 1 by omega]; rfl
  · rw [if_neg q, dB_1, show min 8 (u + 1) = 8 by omega]; rfl
theorem pastD_2 (D : sg_S) (u : Nat) {k : Nat} (hk : ¬ k = 0) : (pastD D u).2 k = D.2 k := by
  unfold pastD
  by_cases q : u < 8
  · rw [if_pos q]
    exact vu_ne D.2 (fb_put (D.2 0) (fun j => D.2 0 j) (31 + 31 * u) 31) hk
  · rw [if_neg q]
    show va_up (va_up D.2 0 (fb_put (D.2 0) (fun j => D.2 0 (62 + j)) 31 217)) 0 (fb_put (va_up D.2 0 (fb_put (D.2 0) (fun j => D.2 0 (62 + j)) 31 217) 0) (fun j => D.2 0 j) 248 31) k = D.2 k
    rw [vu_vu]
    exact vu_ne D.2 _ hk
theorem pastD_0 (D : sg_S) (u : Nat) : (pastD D u).2 0 = if u < 8 then fb_put (D.2 0) (fun j => D.2 0 j) (31 + 31 * u) 31 else fb_put (fb_put (D.2 0) (fun j => D.2 0 (62 + j)) 31 217) (fun j => D.2 0 j) 248 31 := by
  unfold pastD
  by_cases q : u < 8
  · rw [if_pos q, if_pos q]; rfl
  · rw [if_neg q, if_neg q]; rfl
theorem past_now (D : sg_S) (u : Nat) {j : Nat} (hj : j < 31) : (pastD D u).2 0 (0 + j) = D.2 0 (0 + j) := by
  rw [pastD_0]
  by_cases q : u < 8
  · rw [if_pos q, fb_put_out (by omega)]
  · rw [if_neg q, fb_put_out (by omega), fb_put_out (by omega)]
theorem past_kept (D : sg_S) (u : Nat) (hu : u ≤ 8) {j : Nat} (hj : 279 ≤ j) : (pastD D u).2 0 j = D.2 0 j := by
  rw [pastD_0]
  by_cases q : u < 8
  · rw [if_pos q, fb_put_out (by omega)]
  · rw [if_neg q, fb_put_out (by omega), fb_put_out (by omega)]
theorem past_old (D : sg_S) {u i j : Nat} (hu : u < 8) (hi : i < u) (hj : j < 31) : (pastD D u).2 0 (31 + 31 * i + j) = D.2 0 (31 + 31 * i + j) := by
  rw [pastD_0, if_pos hu, fb_put_out (by omega)]
theorem past_new (D : sg_S) {u j : Nat} (hu : u < 8) (hj : j < 31) : (pastD D u).2 0 (31 + 31 * u + j) = D.2 0 (0 + j) := by
  rw [pastD_0, if_pos hu, fb_put_in (by omega) (by omega), show 31 + 31 * u + j - (31 + 31 * u) = 0 + j by omega]
theorem past_old8 (D : sg_S) {i j : Nat} (hi : i < 7) (hj : j < 31) : (pastD D 8).2 0 (31 + 31 * i + j) = D.2 0 (31 + 31 * (i + 1) + j) := by
  rw [pastD_0, if_neg (by omega), fb_put_out (by omega), fb_put_in (by omega) (by omega)]
  show D.2 0 (62 + (31 + 31 * i + j - 31)) = _
  rw [show 62 + (31 + 31 * i + j - 31) = 31 + 31 * (i + 1) + j by omega]
theorem past_new8 (D : sg_S) {j : Nat} (hj : j < 31) : (pastD D 8).2 0 (31 + 31 * 7 + j) = D.2 0 (0 + j) := by
  rw [pastD_0, if_neg (by omega), fb_put_in (by omega) (by omega), show 31 + 31 * 7 + j - 248 = 0 + j by omega]
section PA
variable {L : Nat} {xs : Nat → Int32} {P : st_P} {S : Nat → sg_S} {h : am_H} {n m c x u : Nat}
theorem ok_size : am_ok L xs m_X1_size [.ref 17] (HP P S) (some P.2.1) (HP P S) := by
  refine en_X1_size k_17 rfl rfl (ch_X1_size_0 ?_)
  simp only [f17_2, am_b_some]; (first | exact ⟨fit_i _, rfl, rfl⟩ | exact ⟨fit_i _, rfl, trivial⟩ | exact ⟨fit_i _, trivial, rfl⟩ | exact ⟨fit_i _, trivial, trivial⟩)
theorem ok_forget : am_ok L xs m_X1_forget [.ref 17] (HP P S) none (HP (P.1, 0, P.2.2) S) := by
  refine en_X1_forget k_17 HP_12 HP_22 (ch_X1_forget_0 ?_)
  simp only [p17_2, am_b_some]; (first | exact ⟨rfl, rfl⟩ | exact ⟨rfl, trivial⟩ | exact ⟨trivial, rfl⟩ | exact ⟨trivial, trivial⟩ | exact trivial)
theorem mod8 {a : Nat} (ha : a < 2 ^ 31) : nI a - nI a / 8 * 8 = nI (a % 8) := pk_rem (d := 8) ha (by omega) (by omega)
theorem ok_remember (hx : x < 8) (hu : u ≤ 8) (e1 : P.1 = nI x) (e2 : P.2.1 = nI u) (h4 : (S 0).1 4 = 0 ∨ (S 0).1 4 = 1) : am_ok L xs m_X1_remember [.ref 17, .ref 1] (HP P S) none (HP (nI ((x + 1) % 8), nI (min 8 (u + 1)), P.2.2) (va_up S (2 + x) (cpyM (S (2 + x)) (S 0)))) := by
  refine en_X1_remember k_17 HP_12 HP_22 (ch_X1_remember_0 ?_)
  simp only [f17_0, f17_1, e1, a18 hx, am_b_some]
  refine ⟨_, cpy (jb := 2 + x) (jc := 0) (19 + 7 * x) 1 (fun S N => foR hx) (fun S N => foN) (by omega) (by omega) (by omega) h4, ?_⟩
  simp only [f17_1, e1, am_b_some, ← nI_succ, mod8 (show x + 1 < 2 ^ 31 by omega), p17_1, f17_2, e2, p17_2]
  refine ⟨by decide +kernel, ?_⟩
  have e8 : (if nI (u + 1) < 8 then nI (u + 1) else 8) = nI (min 8 (u + 1)) := by
    by_cases q : u + 1 < 8
    · rw [if_pos (show nI (u + 1) < 8 from nI_lt (b := 8) q (by omega)), show min 8 (u + 1) = u + 1 by omega]
    · rw [if_neg (show ¬ nI (u + 1) < 8 from nI_nlt (a := u + 1) (b := 8) (by omega) (by omega)), show min 8 (u + 1) = 8 by omega]; rfl
  rw [e8]
  (first | exact ⟨rfl, rfl⟩ | exact ⟨rfl, trivial⟩ | exact ⟨trivial, rfl⟩ | exact ⟨trivial, trivial⟩ | exact trivial)
theorem ok_recall (hx : x < 8) (hu : u ≤ 8) (hu1 : 1 ≤ u) (e1 : P.1 = nI x) (e2 : P.2.1 = nI u) (h4 : (S (2 + (x + 7) % 8)).1 4 = 0 ∨ (S (2 + (x + 7) % 8)).1 4 = 1) : am_ok L xs m_X1_recall [.ref 17, .ref 1] (HP P S) none (HP (nI ((x + 7) % 8), nI (u - 1), P.2.2) (va_up S 0 (cpyM (S 0) (S (2 + (x + 7) % 8))))) := by
  refine en_X1_recall k_17 HP_12 HP_22 (ch_X1_recall_0 ?_)
  obtain ⟨q, rfl⟩ : ∃ q, u = q + 1 := ⟨u - 1, by omega⟩
  have a8 : nI x + 8 = nI (x + 7 + 1) := nI_add x 8
  simp only [f17_2, e2, am_b_some]
  rw [if_pos (show (0 : Int32) < nI (q + 1) from nI_lt (a := 0) (by omega) (by omega))]
  simp only [f17_1, e1, a8, nI_m1, am_b_some, mod8 (show x + 7 < 2 ^ 31 by omega), p17_1, f17_2, e2, p17_2, f17_0, a18 (show (x + 7) % 8 < 8 by omega)]
  refine ⟨by decide +kernel, _, cpy (jb := 0) (jc := 2 + (x + 7) % 8) 1 (19 + 7 * ((x + 7) % 8)) (fun S N => foN) (fun S N => foR (by omega)) (by omega) (by omega) (by omega) h4, ?_⟩
  rw [show q + 1 - 1 = q by omega]
  (first | exact ⟨rfl, rfl⟩ | exact ⟨rfl, trivial⟩ | exact ⟨trivial, rfl⟩ | exact ⟨trivial, trivial⟩ | exact trivial)
-- the invariant through them
theorem INV_past (hI : INVn n m c P S) (hx : x < 8) (hu : u ≤ 8) (e1 : P.1 = nI x) (e2 : P.2.1 = nI u) (e3 : (S 16).1 5 = nI u) (hb : ∀ i, i < u → iM n m c (S (2 + (x + 8 - u + i) % 8)) (S 16) (fun j => (S 16).2 0 (31 + 31 * i + j))) : INVn n m c (nI ((x + 1) % 8), nI (min 8 (u + 1)), P.2.2) (va_up (va_up S (2 + x) (cpyM (S (2 + x)) (S 0))) 16 (pastD (S 16) u)) := by
  obtain ⟨⟨a1, a2, a3⟩, hP, hK, hT, hX, hZ⟩ := hI
  generalize hC : cpyM (S (2 + x)) (S 0) = C
  have hCi : ∀ {D : sg_S} {k : Nat → Int32}, iM n m c (S 0) D k → iM n m c C D k := fun z => by rw [← hC]; exact cpy_iM (hZ _ (by omega)) (hZ _ (by omega)) z
  have e16 : va_up (va_up S (2 + x) C) 16 (pastD (S 16) u) 16 = pastD (S 16) u := vu_at _ _ _
  have ex : va_up (va_up S (2 + x) C) 16 (pastD (S 16) u) (2 + x) = C := by rw [vu_ne _ _ (by omega), vu_at]
  have ej : ∀ j, ¬ j = 16 → ¬ j = 2 + x → va_up (va_up S (2 + x) C) 16 (pastD (S 16) u) j = S j := fun j q1 q2 => by rw [vu_ne _ _ q1, vu_ne _ _ q2]
  have e4 : (pastD (S 16) u).2 4 = (S 16).2 4 := pastD_2 _ _ (by omega)
  refine ⟨⟨a1, ?_, ?_⟩, ⟨(x + 1) % 8, min 8 (u + 1), ⟨by omega, by omega⟩, ⟨rfl, rfl, ?_⟩, fun i hi => ?_⟩, fun k hk => ?_, fun s hs => ?_, ?_, fun j hj => ?_⟩
  · rw [e16, pastD_1 _ _ (by omega), pastD_1 _ _ (by omega), pastD_1 _ _ (by omega)]; exact a2
  · rw [e16, ej 0 (by omega) (by omega)]
    exact iM_cong e4 (fun j hj => past_now _ _ hj) a3
  · rw [e16]; exact pastD_5 _ _ hu
  · rw [e16]
    rcases Nat.lt_or_ge u 8 with hlt | hge
    · rcases Nat.lt_or_ge i u with q | q
      · have ei : 2 + ((x + 1) % 8 + 8 - min 8 (u + 1) + i) % 8 = 2 + (x + 8 - u + i) % 8 := by omega
        rw [ei, ej _ (by omega) (by omega)]
        exact iM_cong e4 (fun j hj => past_old _ hlt q hj) (hb i q)
      · have ei : 2 + ((x + 1) % 8 + 8 - min 8 (u + 1) + i) % 8 = 2 + x := by omega
        have eiu : i = u := by omega
        rw [ei, ex, eiu]
        exact iM_cong e4 (fun j hj => past_new _ hlt hj) (hCi a3)
    · have e8 : u = 8 := by omega
      subst e8
      rcases Nat.lt_or_ge i 7 with q | q
      · have ei : 2 + ((x + 1) % 8 + 8 - min 8 (8 + 1) + i) % 8 = 2 + (x + 8 - 8 + (i + 1)) % 8 := by omega
        rw [ei, ej _ (by omega) (by omega)]
        exact iM_cong e4 (fun j hj => past_old8 _ q hj) (hb (i + 1) (by omega))
      · have ei : 2 + ((x + 1) % 8 + 8 - min 8 (8 + 1) + i) % 8 = 2 + x := by omega
        have eiu : i = 7 := by omega
        rw [ei, ex, eiu]
        exact iM_cong e4 (fun j hj => past_new8 _ hj) (hCi a3)
  · rw [e16, ej _ (by omega) (by omega), pastD_2 _ _ (show ¬ 6 = 0 by omega)]
    refine ⟨(hK k hk).1, ?_⟩
    rcases (hK k hk).2 with z | ⟨z1, z2⟩
    · exact Or.inl z
    · exact Or.inr ⟨z1, iM_cong e4 (fun j hj => past_kept _ _ hu (by omega)) z2⟩
  · rw [e16, ej _ (by omega) (by omega)]
    unfold okT
    rw [pastD_2 _ _ (show ¬ 9 = 0 by omega), pastD_2 _ _ (show ¬ 10 = 0 by omega)]
    exact hT s hs
  · unfold iX
    rw [e16, ej 12 (by omega) (by omega), pastD_1 _ _ (show ¬ 8 = 5 by omega), pastD_2 _ _ (show ¬ 7 = 0 by omega), pastD_2 _ _ (show ¬ 17 = 0 by omega)]
    exact hX
  · by_cases q : j = 2 + x
    · rw [q, ex, ← hC]; exact cpy_tz (hZ _ (by omega)) (hZ _ (by omega))
    · rw [ej j (by omega) q]; exact hZ j hj
/-- now's mesh and its block change, and the lots' row -/
theorem INV_now (hI : INVn n m c P S) {M : sg_S} {k g : Nat → Int32} (hw : wfS M n m c) (hb : bOf M (S 16) k) : INVn n m c P (va_up (va_up S 0 M) 16 (dB ((S 16).1, va_up (S 16).2 18 g) 0 k)) := by
  obtain ⟨⟨a1, a2, a3⟩, ⟨x, u, b1, b2, b3⟩, hK, hT, hX, hZ⟩ := hI
  have e16 : va_up (va_up S 0 M) 16 (dB ((S 16).1, va_up (S 16).2 18 g) 0 k) 16 = dB ((S 16).1, va_up (S 16).2 18 g) 0 k := vu_at _ _ _
  have e0 : va_up (va_up S 0 M) 16 (dB ((S 16).1, va_up (S 16).2 18 g) 0 k) 0 = M := by rw [vu_ne _ _ (by omega), vu_at]
  have ej : ∀ j, ¬ j = 16 → ¬ j = 0 → va_up (va_up S 0 M) 16 (dB ((S 16).1, va_up (S 16).2 18 g) 0 k) j = S j := fun j q1 q2 => by rw [vu_ne _ _ q1, vu_ne _ _ q2]
  have ek : ∀ i, ¬ i = 0 → ¬ i = 18 → (dB ((S 16).1, va_up (S 16).2 18 g) 0 k).2 i = (S 16).2 i := fun i q1 q2 => by
    show va_up (va_up (S 16).2 18 g) 0 _ i = _
    rw [vu_ne _ _ q1, vu_ne _ _ q2]
  have ep : ∀ j, 31 ≤ j → (dB ((S 16).1, va_up (S 16).2 18 g) 0 k).2 0 j = (S 16).2 0 j := fun j hj => by
    rw [dB_0, fb_put_out (by omega)]
    show va_up (S 16).2 18 g 0 j = _
    rw [vu_ne _ _ (by omega)]
  refine ⟨⟨a1, ?_, ?_⟩, ⟨x, u, b1, ?_, fun i hi => ?_⟩, fun q hq => ?_, fun s hs => ?_, ?_, fun j hj => ?_⟩
  · rw [e16, dB_1]; exact a2
  · rw [e16, e0]
    refine ⟨hw, bOf_cong (ek 4 (by omega) (by omega)) (fun j hj => dB_at _ _ _ hj) hb⟩
  · rw [e16, dB_1]; exact b2
  · rw [e16, ej _ (by omega) (by omega)]
    exact iM_cong (ek 4 (by omega) (by omega)) (fun j hj => ep _ (by omega)) (b3 i hi)
  · rw [e16, ej _ (by omega) (by omega), ek 6 (by omega) (by omega)]
    refine ⟨(hK q hq).1, ?_⟩
    rcases (hK q hq).2 with z | ⟨z1, z2⟩
    · exact Or.inl z
    · exact Or.inr ⟨z1, iM_cong (ek 4 (by omega) (by omega)) (fun j hj => ep _ (by omega)) z2⟩
  · rw [e16, ej _ (by omega) (by omega)]
    unfold okT
    rw [ek 9 (by omega) (by omega), ek 10 (by omega) (by omega)]
    exact hT s hs
  · unfold iX
    rw [e16, ej 12 (by omega) (by omega), dB_1, ek 7 (by omega) (by omega), ek 17 (by omega) (by omega)]
    exact hX
  · by_cases q : j = 0
    · rw [q, e0]; exact wf_tz hw
    · rw [ej j (by omega) q]; exact hZ j hj
end PA
