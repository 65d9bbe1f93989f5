/-! MESH: fill, copyFrom, link, cut, begin, lots -/
theorem upd_upd (f : Nat → Int32) (k : Nat) (x y : Int32) : upd (upd f k x) k y = upd f k y := by
  funext j; unfold upd; by_cases e : j = k <;> simp [e]
theorem upd_id (f : Nat → Int32) (k : Nat) : upd f k (f k) = f := by
  funext j; unfold upd; by_cases e : j = k <;> simp [e]
theorem upd_at (f : Nat → Int32) (k : Nat) (x : Int32) : upd f k x k = x := by unfold upd; simp
theorem upd_ne (f : Nat → Int32) {j k : Nat} (x : Int32) (e : ¬ j = k) : upd f k x j = f j := by unfold upd; simp [e]
theorem vu_vu {α : Type} (f : Nat → α) (k : Nat) (x y : α) : va_up (va_up f k x) k y = va_up f k y := by
  funext j; unfold va_up; by_cases e : j = k <;> simp [e]
theorem vu_id {α : Type} (f : Nat → α) (k : Nat) : va_up f k (f k) = f := by
  funext j; unfold va_up; by_cases e : j = k <;> simp [e]
theorem vu_at {α : Type} (f : Nat → α) (k : Nat) (x : α) : va_up f k x k = x := by unfold va_up; simp
theorem vu_ne {α : Type} (f : Nat → α) {j k : Nat} (x : α) (e : ¬ j = k) : va_up f k x j = f j := by unfold va_up; simp [e]
def fillF (n : Nat) (x : Int32) (f : Nat → Int32) : Nat → Int32 := fun i => if i < n then x else f i
theorem fill_0 (x : Int32) (f : Nat → Int32) : fillF 0 x f = f := by funext i; simp [fillF]
theorem fill_s (n : Nat) (x : Int32) (f : Nat → Int32) : upd (fillF n x f) n x = fillF (n + 1) x f := by
  funext i
  unfold upd fillF
  by_cases e : i = n
  · simp [e]
  · by_cases e2 : i < n
    · simp [e, e2, show i < n + 1 by omega]
    · simp [e, e2, show ¬ i < n + 1 by omega]
section M2
variable {L : Nat} {xs : Nat → Int32} {h : am_H} {b c n m v s : Nat} {M N : sg_S}
theorem ok_fill {σ : sg_T} {S : sg_S} {k j n : Nat} {x : Int32} (e : σ.2.2.1 k = some (j, .int, n)) (ei : σ.2.2.2.2 j = k) (hu : ∀ i, i < σ.2.2.2.1 → σ.2.2.2.2 i = k → i = j) (hj : j < σ.2.2.2.1) (hn : n < 2 ^ 31) (hb : b + 1 + j < h.1) : am_ok L xs m_J7_fill_53178 [.ref (b + 1 + j), .int x] (ob σ h b S) none (ob σ h b (S.1, va_up S.2 k (fillF n x (S.2 k)))) := by
  refine en_J7_fill_53178 rfl rfl (ch_J7_fill_53178_0 ?_)
  rw [ob_len e ei hj hb, am_b_some]
  have key := up_to (P := fun i => am_wa L xs m_J7_fill_53178 (ob σ h b S) none (ob σ h b (S.1, va_up S.2 k (fillF n x (S.2 k)))) 5 [.ref (b + 1 + j), .int x, .int (nI i), .int (nI n)] [] (ob σ h b (S.1, va_up S.2 k (fillF i x (S.2 k))))) n ?_ ?_ 0 (by omega)
  · rw [fill_0, vu_id] at key
    exact key
  · refine ch_J7_fill_53178_5 ?_
    rw [if_neg (nI_irr n)]
    (first | exact ⟨rfl, rfl⟩ | exact ⟨rfl, trivial⟩ | exact ⟨trivial, rfl⟩ | exact ⟨trivial, trivial⟩ | exact trivial)
  · intro i hi ih
    refine ch_J7_fill_53178_5 ?_
    rw [if_pos (nI_lt hi hn), ob_sI e ei hu hj hn hb hi, am_b_some, ← nI_succ]
    simp only [vu_vu, vu_at, fill_s]
    exact ih
theorem ok_link (hb : b + 6 < h.1) {u v : Nat} (hu : u < 8) (hv : v < 8) : am_ok L xs m_X0_link [.ref b, .int (nI u), .int (nI v)] (ob sgM h b M) none (ob sgM h b (M.1, va_up M.2 7 (upd (upd (M.2 7) u (M.2 7 u ||| (1 : Int32) <<< (nI v &&& 31))) v (upd (M.2 7) u (M.2 7 u ||| (1 : Int32) <<< (nI v &&& 31)) v ||| (1 : Int32) <<< (nI u &&& 31))))) := by
  refine en_X0_link (cM hb) rfl rfl (ch_X0_link_0 ?_)
  simp only [cM hb, gM_0 hb, gM_1 hb, gM_2 hb, gM_3 hb, gM_4 hb, gM_5 hb, gM_6 hb, gM_7 hb, gM_8 hb, gM_9 hb, gM_10 hb, pM_0 hb, pM_1 hb, pM_2 hb, pM_3 hb, pM_4 hb, lM_5 hb hu, sM_5 hb hu, lM_6 hb hu, sM_6 hb hu, lM_7 hb hu, sM_7 hb hu, lM_8 hb hu, sM_8 hb hu, lM_10 hb hu, sM_10 hb hu, am_b_some]
  simp only [cM hb, gM_0 hb, gM_1 hb, gM_2 hb, gM_3 hb, gM_4 hb, gM_5 hb, gM_6 hb, gM_7 hb, gM_8 hb, gM_9 hb, gM_10 hb, pM_0 hb, pM_1 hb, pM_2 hb, pM_3 hb, pM_4 hb, lM_5 hb hv, sM_5 hb hv, lM_6 hb hv, sM_6 hb hv, lM_7 hb hv, sM_7 hb hv, lM_8 hb hv, sM_8 hb hv, lM_10 hb hv, sM_10 hb hv, am_b_some, vu_vu, vu_at]
  (first | exact ⟨rfl, rfl⟩ | exact ⟨rfl, trivial⟩ | exact ⟨trivial, rfl⟩ | exact ⟨trivial, trivial⟩ | exact trivial)
theorem ok_cut (hb : b + 6 < h.1) {u v : Nat} (hu : u < 8) (hv : v < 8) : am_ok L xs m_X0_cut [.ref b, .int (nI u), .int (nI v)] (ob sgM h b M) none (ob sgM h b (M.1, va_up M.2 7 (upd (upd (M.2 7) u (M.2 7 u &&& ((1 : Int32) <<< (nI v &&& 31) ^^^ (-1)))) v (upd (M.2 7) u (M.2 7 u &&& ((1 : Int32) <<< (nI v &&& 31) ^^^ (-1))) v &&& ((1 : Int32) <<< (nI u &&& 31) ^^^ (-1)))))) := by
  refine en_X0_cut (cM hb) rfl rfl (ch_X0_cut_0 ?_)
  simp only [cM hb, gM_0 hb, gM_1 hb, gM_2 hb, gM_3 hb, gM_4 hb, gM_5 hb, gM_6 hb, gM_7 hb, gM_8 hb, gM_9 hb, gM_10 hb, pM_0 hb, pM_1 hb, pM_2 hb, pM_3 hb, pM_4 hb, lM_5 hb hu, sM_5 hb hu, lM_6 hb hu, sM_6 hb hu, lM_7 hb hu, sM_7 hb hu, lM_8 hb hu, sM_8 hb hu, lM_10 hb hu, sM_10 hb hu, am_b_some]
  simp only [cM hb, gM_0 hb, gM_1 hb, gM_2 hb, gM_3 hb, gM_4 hb, gM_5 hb, gM_6 hb, gM_7 hb, gM_8 hb, gM_9 hb, gM_10 hb, pM_0 hb, pM_1 hb, pM_2 hb, pM_3 hb, pM_4 hb, lM_5 hb hv, sM_5 hb hv, lM_6 hb hv, sM_6 hb hv, lM_7 hb hv, sM_7 hb hv, lM_8 hb hv, sM_8 hb hv, lM_10 hb hv, sM_10 hb hv, am_b_some, vu_vu, vu_at]
  (first | exact ⟨rfl, rfl⟩ | exact ⟨rfl, trivial⟩ | exact ⟨trivial, rfl⟩ | exact ⟨trivial, trivial⟩ | exact trivial)
def beginF (M : sg_S) (x0 x1 x2 x3 : Int32) : sg_S := (upd (upd (upd (upd M.1 0 x0) 1 x1) 2 x2) 3 x3, va_up (va_up (va_up M.2 5 (fillF 8 1 (M.2 5))) 6 (fillF 8 8 (M.2 6))) 7 (fillF 8 0 (M.2 7)))
theorem ok_begin (hb : b + 6 < h.1) {x0 x1 x2 x3 : Int32} : am_ok L xs m_X0_begin [.ref b, .int x0, .int x1, .int x2, .int x3] (ob sgM h b M) none (ob sgM h b (beginF M x0 x1 x2 x3)) := by
  refine en_X0_begin (cM hb) rfl rfl (ch_X0_begin_0 ?_)
  simp only [cM hb, gM_0 hb, gM_1 hb, gM_2 hb, gM_3 hb, gM_4 hb, gM_5 hb, gM_6 hb, gM_7 hb, gM_8 hb, gM_9 hb, gM_10 hb, pM_0 hb, pM_1 hb, pM_2 hb, pM_3 hb, pM_4 hb, am_b_some]
  refine ⟨_, ok_fill (σ := sgM) (k := 5) (j := 0) (n := 8) rfl rfl (by decide) (by decide) (by decide) (by omega), ?_⟩
  simp only [cM hb, gM_0 hb, gM_1 hb, gM_2 hb, gM_3 hb, gM_4 hb, gM_5 hb, gM_6 hb, gM_7 hb, gM_8 hb, gM_9 hb, gM_10 hb, pM_0 hb, pM_1 hb, pM_2 hb, pM_3 hb, pM_4 hb, am_b_some]
  refine ⟨_, ok_fill (σ := sgM) (k := 6) (j := 1) (n := 8) rfl rfl (by decide) (by decide) (by decide) (by omega), ?_⟩
  simp only [cM hb, gM_0 hb, gM_1 hb, gM_2 hb, gM_3 hb, gM_4 hb, gM_5 hb, gM_6 hb, gM_7 hb, gM_8 hb, gM_9 hb, gM_10 hb, pM_0 hb, pM_1 hb, pM_2 hb, pM_3 hb, pM_4 hb, am_b_some]
  refine ⟨_, ok_fill (σ := sgM) (k := 7) (j := 2) (n := 8) rfl rfl (by decide) (by decide) (by decide) (by omega), ?_⟩
  (first | exact ⟨rfl, rfl⟩ | exact ⟨rfl, trivial⟩ | exact ⟨trivial, rfl⟩ | exact ⟨trivial, trivial⟩ | exact trivial)
theorem ok_forgetCycles (hb : b + 6 < h.1) : am_ok L xs m_X0_forgetCycles [.ref b] (ob sgM h b M) none (ob sgM h b (upd M.1 4 0, va_up M.2 8 (fillF 8 0 (M.2 8)))) := by
  refine en_X0_forgetCycles (cM hb) rfl rfl (ch_X0_forgetCycles_0 ⟨Or.inl rfl, ?_⟩)
  simp only [cM hb, gM_0 hb, gM_1 hb, gM_2 hb, gM_3 hb, gM_4 hb, gM_5 hb, gM_6 hb, gM_7 hb, gM_8 hb, gM_9 hb, gM_10 hb, pM_0 hb, pM_1 hb, pM_2 hb, pM_3 hb, pM_4 hb, am_b_some]
  refine ⟨_, ok_fill (σ := sgM) (k := 8) (j := 3) (n := 8) rfl rfl (by decide) (by decide) (by decide) (by omega), ?_⟩
  (first | exact ⟨rfl, rfl⟩ | exact ⟨rfl, trivial⟩ | exact ⟨trivial, rfl⟩ | exact ⟨trivial, trivial⟩ | exact trivial)
def lotS (l : Int32) : Int32 := ((l * (171 : Int32)) + (11213 : Int32)) - ((l * (171 : Int32)) + (11213 : Int32)) / (53125 : Int32) * (53125 : Int32)
def lotV (l k : Int32) : Int32 := (l / (64 : Int32)) - (l / (64 : Int32)) / k * k
theorem ok_drawLot (hb : b + 6 < h.1) {k : Int32} (h1 : ¬ k < 1) (h2 : ¬ k = 0) : am_ok L xs m_X0_drawLot [.ref b, .int k] (ob sgM h b M) (some (lotV (lotS (M.1 3)) k)) (ob sgM h b (upd M.1 3 (lotS (M.1 3)), M.2)) := by
  refine en_X0_drawLot (cM hb) rfl rfl (ch_X0_drawLot_0 ?_)
  simp only [cM hb, gM_0 hb, gM_1 hb, gM_2 hb, gM_3 hb, gM_4 hb, gM_5 hb, gM_6 hb, gM_7 hb, gM_8 hb, gM_9 hb, gM_10 hb, pM_0 hb, pM_1 hb, pM_2 hb, pM_3 hb, pM_4 hb, am_b_some]
  refine ⟨by decide +kernel, ?_⟩
  rw [if_neg h1]
  simp only [upd_at]
  exact ⟨by decide +kernel, h2, fit_i _, rfl, rfl⟩
-- copying a mesh
theorem ob2 {k : Nat} (hd : b + 6 < c ∨ c + 6 < b) : ob sgM (ob sgM h c N) b M = ob sgM (ob sgM h b M) c N := ob_swap hd
def cpyM (M N : sg_S) : sg_S := (upd (upd (upd (upd (upd M.1 0 (N.1 0)) 1 (N.1 1)) 2 (N.1 2)) 3 (N.1 3)) 4 (N.1 4), va_up (va_up (va_up (va_up (va_up M.2 5 (va_cpy (N.2 5) (M.2 5) 0 0 8)) 6 (va_cpy (N.2 6) (M.2 6) 0 0 8)) 7 (va_cpy (N.2 7) (M.2 7) 0 0 8)) 8 (va_cpy (N.2 8) (M.2 8) 0 0 8)) 9 (va_cpy (N.2 9) (M.2 9) 0 0 5))
theorem cl_0 : (0 : Int32).toNatClampNeg = 0 := by decide +kernel
theorem cl_8 : (8 : Int32).toNatClampNeg = 8 := by decide +kernel
theorem cl_5 : (5 : Int32).toNatClampNeg = 5 := by decide +kernel
theorem cp8 {a0 a : Nat} {f f1 : Nat → Int32} {H : am_H} (e0 : am_ii H a0 = some (.int, 8, f)) (e1 : am_ii H a = some (.int, 8, f1)) : am_cp H a0 0 a 0 8 = some (am_put H a (.inl (.int, 8, .inl (va_cpy f f1 0 0 8)))) := by
  unfold am_cp
  rw [e0, e1]
  simp only [cl_0, cl_8]
  rw [if_pos]
  exact ⟨⟨trivial, trivial⟩, by decide +kernel⟩
theorem cp5 {a0 a : Nat} {f f1 : Nat → Int32} {H : am_H} (e0 : am_ii H a0 = some (.int, 5, f)) (e1 : am_ii H a = some (.int, 5, f1)) : am_cp H a0 0 a 0 5 = some (am_put H a (.inl (.int, 5, .inl (va_cpy f f1 0 0 5)))) := by
  unfold am_cp
  rw [e0, e1]
  simp only [cl_0, cl_5]
  rw [if_pos]
  exact ⟨⟨trivial, trivial⟩, by decide +kernel⟩
theorem ok_copyFrom (hb : b + 6 < h.1) (hc : c + 6 < h.1) (hd : b + 6 < c ∨ c + 6 < b) (h4 : N.1 4 = 0 ∨ N.1 4 = 1) : am_ok L xs m_X0_copyFrom [.ref b, .ref c] (ob sgM (ob sgM h c N) b M) none (ob sgM (ob sgM h c N) b (cpyM M N)) := by
  have g0 : ∀ M, am_gI (ob sgM (ob sgM h c N) b M) c 0 0 = some (N.1 0) := fun M => by rw [ob_swap hd]; exact gM_0 hc
  have g1 : ∀ M, am_gI (ob sgM (ob sgM h c N) b M) c 0 1 = some (N.1 1) := fun M => by rw [ob_swap hd]; exact gM_1 hc
  have g2 : ∀ M, am_gI (ob sgM (ob sgM h c N) b M) c 0 2 = some (N.1 2) := fun M => by rw [ob_swap hd]; exact gM_2 hc
  have g3 : ∀ M, am_gI (ob sgM (ob sgM h c N) b M) c 0 3 = some (N.1 3) := fun M => by rw [ob_swap hd]; exact gM_3 hc
  have g4 : ∀ M, am_gI (ob sgM (ob sgM h c N) b M) c 0 4 = some (N.1 4) := fun M => by rw [ob_swap hd]; exact gM_4 hc
  have g5 : ∀ M, am_gR (ob sgM (ob sgM h c N) b M) c 0 5 = some (c + 1) := fun M => by rw [ob_swap hd]; exact gM_5 hc
  have g6 : ∀ M, am_gR (ob sgM (ob sgM h c N) b M) c 0 6 = some (c + 2) := fun M => by rw [ob_swap hd]; exact gM_6 hc
  have g7 : ∀ M, am_gR (ob sgM (ob sgM h c N) b M) c 0 7 = some (c + 3) := fun M => by rw [ob_swap hd]; exact gM_7 hc
  have g8 : ∀ M, am_gR (ob sgM (ob sgM h c N) b M) c 0 8 = some (c + 4) := fun M => by rw [ob_swap hd]; exact gM_8 hc
  have g9 : ∀ M, am_gR (ob sgM (ob sgM h c N) b M) c 0 9 = some (c + 5) := fun M => by rw [ob_swap hd]; exact gM_9 hc
  have i5 : ∀ M, am_ii (ob sgM (ob sgM h c N) b M) (c + 1) = some (.int, 8, N.2 5) := fun M => by rw [ob_swap hd]; exact iM_5 hc
  have i6 : ∀ M, am_ii (ob sgM (ob sgM h c N) b M) (c + 2) = some (.int, 8, N.2 6) := fun M => by rw [ob_swap hd]; exact iM_6 hc
  have i7 : ∀ M, am_ii (ob sgM (ob sgM h c N) b M) (c + 3) = some (.int, 8, N.2 7) := fun M => by rw [ob_swap hd]; exact iM_7 hc
  have i8 : ∀ M, am_ii (ob sgM (ob sgM h c N) b M) (c + 4) = some (.int, 8, N.2 8) := fun M => by rw [ob_swap hd]; exact iM_8 hc
  have i9 : ∀ M, am_ii (ob sgM (ob sgM h c N) b M) (c + 5) = some (.int, 5, N.2 9) := fun M => by rw [ob_swap hd]; exact iM_9 hc
  have hb2 : b + 6 < (ob sgM h c N).1 := hb
  have q5 : ∀ M, am_cp (ob sgM (ob sgM h c N) b M) (c + 1) 0 (b + 1) 0 8 = some (ob sgM (ob sgM h c N) b (M.1, va_up M.2 5 (va_cpy (N.2 5) (M.2 5) 0 0 8))) := fun M => by rw [cp8 (i5 M) (iM_5 hb2), uM_5]
  have q6 : ∀ M, am_cp (ob sgM (ob sgM h c N) b M) (c + 2) 0 (b + 2) 0 8 = some (ob sgM (ob sgM h c N) b (M.1, va_up M.2 6 (va_cpy (N.2 6) (M.2 6) 0 0 8))) := fun M => by rw [cp8 (i6 M) (iM_6 hb2), uM_6]
  have q7 : ∀ M, am_cp (ob sgM (ob sgM h c N) b M) (c + 3) 0 (b + 3) 0 8 = some (ob sgM (ob sgM h c N) b (M.1, va_up M.2 7 (va_cpy (N.2 7) (M.2 7) 0 0 8))) := fun M => by rw [cp8 (i7 M) (iM_7 hb2), uM_7]
  have q8 : ∀ M, am_cp (ob sgM (ob sgM h c N) b M) (c + 4) 0 (b + 4) 0 8 = some (ob sgM (ob sgM h c N) b (M.1, va_up M.2 8 (va_cpy (N.2 8) (M.2 8) 0 0 8))) := fun M => by rw [cp8 (i8 M) (iM_8 hb2), uM_8]
  have q9 : ∀ M, am_cp (ob sgM (ob sgM h c N) b M) (c + 5) 0 (b + 5) 0 5 = some (ob sgM (ob sgM h c N) b (M.1, va_up M.2 9 (va_cpy (N.2 9) (M.2 9) 0 0 5))) := fun M => by rw [cp5 (i9 M) (iM_9 hb2), uM_9]
  refine en_X0_copyFrom (cM hb2) rfl rfl (ch_X0_copyFrom_0 ?_)
  simp only [g0, g1, g2, g3, g4, g5, g6, g7, g8, g9, q5, q6, q7, q8, q9, cM hb2, gM_0 hb2, gM_1 hb2, gM_2 hb2, gM_3 hb2, gM_4 hb2, gM_5 hb2, gM_6 hb2, gM_7 hb2, gM_8 hb2, gM_9 hb2, gM_10 hb2, pM_0 hb2, pM_1 hb2, pM_2 hb2, pM_3 hb2, pM_4 hb2, am_b_some]
  (first | exact ⟨h4, rfl, rfl⟩ | exact ⟨h4, rfl, trivial⟩ | exact ⟨h4, trivial, rfl⟩ | exact ⟨h4, trivial, trivial⟩)
end M2
