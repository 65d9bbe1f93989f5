/-! NEW OBJECTS -/
def gr (h : am_H) (n s : Nat) : am_H := (n, s, h.2.2)
theorem gr_ob {σ : sg_T} {h : am_H} {b : Nat} {S : sg_S} {n s : Nat} : gr (ob σ h b S) n s = ob σ (gr h n s) b S := rfl
theorem gr_gr {h : am_H} {n s n' s' : Nat} : gr (gr h n s) n' s' = gr h n' s' := rfl
theorem gr_self {h : am_H} : gr h h.1 h.2.1 = h := rfl
/-- an object at b, what lies behind it -/
def PB (h : am_H) (b ci : Nat) (fs : List Value) (s : Nat) (l : List am_C) : am_H := (b + 1 + l.length, s, fun a => if a = b then .inr (ci, fs) else if b < a ∧ a ≤ b + l.length then l.getD (a - b - 1) (.inr (0, [])) else h.2.2 a)
theorem PB_start {h : am_H} {b ci n : Nat} {fs : List Value} (e : h.1 = b) : am_push h n (.inr (ci, fs)) = PB h b ci fs (h.2.1 + n) [] := by
  subst e
  refine Prod.ext rfl (Prod.ext rfl ?_)
  funext a
  show va_up h.2.2 h.1 (.inr (ci, fs)) a = (if a = h.1 then .inr (ci, fs) else if h.1 < a ∧ a ≤ h.1 + 0 then _ else h.2.2 a)
  unfold va_up
  by_cases q : a = h.1
  · rw [if_pos q, if_pos q]
  · rw [if_neg q, if_neg q, if_neg (by omega)]
theorem PB_push {h : am_H} {b ci s n : Nat} {fs : List Value} {l : List am_C} {c : am_C} : am_push (PB h b ci fs s l) n c = PB h b ci fs (s + n) (l ++ [c]) := by
  refine Prod.ext ?_ (Prod.ext rfl ?_)
  · show b + 1 + l.length + 1 = b + 1 + (l ++ [c]).length
    simp; omega
  · funext a
    show va_up (PB h b ci fs s l).2.2 (b + 1 + l.length) c a = (if a = b then .inr (ci, fs) else if b < a ∧ a ≤ b + (l ++ [c]).length then (l ++ [c]).getD (a - b - 1) (.inr (0, [])) else h.2.2 a)
    unfold va_up
    by_cases q : a = b + 1 + l.length
    · rw [if_pos q, if_neg (by omega), if_pos (by simp; omega), show a - b - 1 = l.length by omega]
      simp
    · rw [if_neg q]
      show (if a = b then .inr (ci, fs) else if b < a ∧ a ≤ b + l.length then l.getD (a - b - 1) (.inr (0, [])) else h.2.2 a) = _
      by_cases q1 : a = b
      · rw [if_pos q1, if_pos q1]
      · rw [if_neg q1, if_neg q1]
        by_cases q2 : b < a ∧ a ≤ b + l.length
        · rw [if_pos q2, if_pos (by simp; omega)]
          rw [List.getD_eq_getElem?_getD, List.getD_eq_getElem?_getD, List.getElem?_append_left (by omega)]
        · rw [if_neg q2, if_neg (by simp; omega)]
theorem PB_lookb {h : am_H} {b ci s : Nat} {fs : List Value} {l : List am_C} : am_look (PB h b ci fs s l) b = some (.inr (ci, fs)) := am_look_of (show b < b + 1 + l.length by omega) (if_pos rfl)
theorem PB_pF {h : am_H} {b ci s k : Nat} {fs : List Value} {l : List am_C} {v : Value} (hk : k < fs.length) : am_pF (PB h b ci fs s l) b ci k v = some (PB h b ci (fs.set k v) s l) := by
  unfold am_pF
  rw [PB_lookb]
  show (if ci = ci ∧ k < fs.length then some (am_put (PB h b ci fs s l) b (.inr (ci, fs.set k v))) else none) = _
  rw [if_pos ⟨rfl, hk⟩]
  congr 1
  refine Prod.ext rfl (Prod.ext rfl ?_)
  funext a
  show va_up (PB h b ci fs s l).2.2 b (.inr (ci, fs.set k v)) a = (if a = b then .inr (ci, fs.set k v) else _)
  unfold va_up
  by_cases q : a = b
  · rw [if_pos q, if_pos q]
  · rw [if_neg q, if_neg q]
    show (if a = b then _ else _) = _
    rw [if_neg q]
theorem PB_looka {h : am_H} {b ci s j : Nat} {fs : List Value} {l : List am_C} {c : am_C} (hj : l[j]? = some c) : am_look (PB h b ci fs s l) (b + 1 + j) = some c := by
  have hjl : j < l.length := by
    apply Classical.byContradiction
    intro z
    rw [List.getElem?_eq_none (by omega)] at hj
    exact absurd hj (by simp)
  refine am_look_of (show b + 1 + j < b + 1 + l.length by omega) ?_
  show (if b + 1 + j = b then _ else if b < b + 1 + j ∧ b + 1 + j ≤ b + l.length then l.getD (b + 1 + j - b - 1) (.inr (0, [])) else _) = _
  rw [if_neg (by omega), if_pos (by omega), show b + 1 + j - b - 1 = j by omega, List.getD_eq_getElem?_getD, hj]
  rfl
theorem PB_putA {h : am_H} {b ci s j : Nat} {fs : List Value} {l : List am_C} {c : am_C} (hjl : j < l.length) : am_put (PB h b ci fs s l) (b + 1 + j) c = PB h b ci fs s (l.set j c) := by
  refine Prod.ext ?_ (Prod.ext rfl ?_)
  · show b + 1 + l.length = b + 1 + (l.set j c).length
    rw [List.length_set]
  · funext a
    show va_up (PB h b ci fs s l).2.2 (b + 1 + j) c a = (if a = b then .inr (ci, fs) else if b < a ∧ a ≤ b + (l.set j c).length then (l.set j c).getD (a - b - 1) (.inr (0, [])) else h.2.2 a)
    rw [List.length_set]
    unfold va_up
    by_cases q : a = b + 1 + j
    · rw [if_pos q, if_neg (by omega), if_pos (by omega), show a - b - 1 = j by omega]
      simp [hjl]
    · rw [if_neg q]
      show (if a = b then .inr (ci, fs) else if b < a ∧ a ≤ b + l.length then l.getD (a - b - 1) (.inr (0, [])) else h.2.2 a) = _
      by_cases q1 : a = b
      · rw [if_pos q1, if_pos q1]
      · rw [if_neg q1, if_neg q1]
        by_cases q2 : b < a ∧ a ≤ b + l.length
        · rw [if_pos q2, if_pos q2, List.getD_eq_getElem?_getD, List.getD_eq_getElem?_getD, List.getElem?_set_ne (by omega)]
        · rw [if_neg q2, if_neg q2]
theorem PB_sI {h : am_H} {b ci s j n i : Nat} {fs : List Value} {l : List am_C} {g : Nat → Int32} {x : Int32} (hj : l[j]? = some (.inl (.int, n, .inl g))) (hi : i < n) (hn : n < 2 ^ 31) : am_sI (PB h b ci fs s l) .int (b + 1 + j) (nI i) x = some (PB h b ci fs s (l.set j (.inl (.int, n, .inl (upd g i x))))) := by
  have hjl : j < l.length := by
    apply Classical.byContradiction
    intro z
    rw [List.getElem?_eq_none (by omega)] at hj
    exact absurd hj (by simp)
  unfold am_sI am_ii
  rw [PB_looka hj]
  show (if FieldType.int = FieldType.int ∧ ¬ (nI i < 0 ∨ n ≤ (nI i).toNatClampNeg) then some (am_put (PB h b ci fs s l) (b + 1 + j) (.inl (.int, n, .inl (upd g (nI i).toNatClampNeg x)))) else none) = _
  rw [if_pos ⟨rfl, nI_in hi hn⟩, nI_clamp (by omega), PB_putA hjl]
theorem PB_ob {σ : sg_T} {h : am_H} {b s n : Nat} {fs : List Value} {l : List am_C} {S : sg_S} (e1 : fs = ob_fs σ b S) (e2 : l.length = σ.2.2.2.1) (e3 : ∀ j, j < l.length → l.getD j (.inr (0, [])) = ob_arr σ S j) (en : n = b + 1 + l.length) : PB h b σ.1 fs s l = ob σ (gr h n s) b S := by
  refine Prod.ext en.symm (Prod.ext rfl ?_)
  funext a
  show (if a = b then .inr (σ.1, fs) else if b < a ∧ a ≤ b + l.length then l.getD (a - b - 1) (.inr (0, [])) else h.2.2 a) = (if a = b then .inr (σ.1, ob_fs σ b S) else if b < a ∧ a ≤ b + σ.2.2.2.1 then ob_arr σ S (a - b - 1) else h.2.2 a)
  rw [e1, ← e2]
  by_cases q : a = b
  · rw [if_pos q, if_pos q]
  · rw [if_neg q, if_neg q]
    by_cases q2 : b < a ∧ a ≤ b + l.length
    · rw [if_pos q2, if_pos q2, e3 _ (by omega)]
    · rw [if_neg q2, if_neg q2]
theorem PB_new {h : am_H} {b ci s k n : Nat} {fs : List Value} {l : List am_C} {c : am_C} {K : am_H → Prop} (hk : k < fs.length) (H : K (PB h b ci (fs.set k (.ref (b + 1 + l.length))) (s + n) (l ++ [c]))) : am_b (am_pF (am_push (PB h b ci fs s l) n c) b ci k (.ref (Prod.fst (PB h b ci fs s l)))) K := by
  rw [PB_push, PB_pF hk, am_b_some]
  exact H
theorem PB_al {h h' : am_H} {b ci s0 s m k : Nat} {fs fs' : List Value} {l0 l : List am_C} (h1 : l.length + 1 ≤ l0.length + tm_mc k) (h2 : s + m ≤ s0 + tm_ms k) : am_Al k (PB h b ci fs s0 l0) (PB h' b ci fs' s l) 1 m := by
  refine ⟨?_, h2⟩
  show b + 1 + l.length + 1 ≤ b + 1 + l0.length + tm_mc k
  omega
def zS : sg_S := (fun _ => 0, fun _ _ => 0)
section NW
variable {L : Nat} {xs : Nat → Int32} {h : am_H} {b : Nat}
theorem mc_X0 : tm_mc m_X0_init = 6 ∧ tm_ms m_X0_init = 45 := by decide +kernel
theorem mc_X2 : tm_mc m_X2_init = 1 ∧ tm_ms m_X2_init = 8 := by decide +kernel
theorem mc_X3 : tm_mc m_X3_init = 1 ∧ tm_ms m_X3_init = 200 := by decide +kernel
theorem cl_200 : (200 : Int32).toNatClampNeg = 200 := by decide +kernel
theorem ok_initM (e : h.1 = b) : am_ok L xs m_X0_init [.ref b] (am_push h (am_df 0).length (.inr (0, am_df 0))) none (ob sgM (gr h (b + 7) (h.2.1 + 56)) b zS) := by
  rw [PB_start e]
  generalize hs : h.2.1 = s
  have m1 := mc_X0.1
  have m2 := mc_X0.2
  refine en_X0_init rfl (by show s + 56 = s + 11 + 45; omega) (ch_X0_init_0 ?_)
  simp only [cl_8, cl_5]
  refine ⟨⟨by decide +kernel, by decide⟩, PB_al (by simp [m1]) (by simp [m2, am_df] <;> omega), PB_new (by simp [am_df]) ?_⟩
  refine ⟨⟨by decide +kernel, by decide⟩, PB_al (by simp [m1]) (by simp [m2, am_df] <;> omega), PB_new (by simp [am_df]) ?_⟩
  refine ⟨⟨by decide +kernel, by decide⟩, PB_al (by simp [m1]) (by simp [m2, am_df] <;> omega), PB_new (by simp [am_df]) ?_⟩
  refine ⟨⟨by decide +kernel, by decide⟩, PB_al (by simp [m1]) (by simp [m2, am_df] <;> omega), PB_new (by simp [am_df]) ?_⟩
  refine ⟨⟨by decide +kernel, by decide⟩, PB_al (by simp [m1]) (by simp [m2, am_df] <;> omega), PB_new (by simp [am_df]) ?_⟩
  refine ⟨⟨by decide +kernel, by decide⟩, PB_al (by simp [m1]) (by simp [m2, am_df] <;> omega), PB_new (by simp [am_df]) ?_⟩
  refine ⟨by first | rfl | trivial, ?_⟩
  refine (PB_ob (σ := sgM) (S := zS) (n := b + 7) rfl rfl (fun j hj => ?_) rfl).trans ?_
  · have hj6 : j < 6 := hj
    have : j = 0 ∨ j = 1 ∨ j = 2 ∨ j = 3 ∨ j = 4 ∨ j = 5 := by omega
    rcases this with rfl | rfl | rfl | rfl | rfl | rfl <;> rfl
  · rfl
theorem ok_initT (e : h.1 = b) : am_ok L xs m_X2_init [.ref b] (am_push h (am_df 2).length (.inr (2, am_df 2))) none (ob sgT (gr h (b + 2) (h.2.1 + 11)) b (upd (fun _ => 0) 2 1, fun _ _ => 0)) := by
  rw [PB_start e]
  generalize hs : h.2.1 = s
  have m1 := mc_X2.1
  have m2 := mc_X2.2
  refine en_X2_init rfl (by show s + 11 = s + 3 + 8; omega) (ch_X2_init_0 ?_)
  simp only [cl_8]
  refine ⟨⟨by decide +kernel, by decide⟩, PB_al (by simp [m1]) (by simp [m2, am_df]), PB_new (by simp [am_df]) ?_⟩
  refine ⟨Or.inr trivial, ?_⟩
  rw [PB_pF (by simp [am_df]), am_b_some]
  refine ⟨by first | rfl | trivial, ?_⟩
  refine (PB_ob (σ := sgT) (S := (upd (fun _ => 0) 2 1, fun _ _ => 0)) (n := b + 2) rfl rfl (fun j hj => ?_) rfl).trans ?_
  · have hj6 : j < 1 := hj
    have : j = 0 := by omega
    subst this
    rfl
  · rfl
theorem ok_initX (e : h.1 = b) : am_ok L xs m_X3_init [.ref b] (am_push h (am_df 3).length (.inr (3, am_df 3))) none (ob sgX (gr h (b + 2) (h.2.1 + 206)) b zS) := by
  rw [PB_start e]
  generalize hs : h.2.1 = s
  have m1 := mc_X3.1
  have m2 := mc_X3.2
  refine en_X3_init rfl (by show s + 206 = s + 6 + 200; omega) (ch_X3_init_0 ?_)
  simp only [cl_200]
  refine ⟨⟨by decide +kernel, by decide⟩, PB_al (by simp [m1]) (by simp [m2, am_df]), PB_new (by simp [am_df]) ?_⟩
  refine ⟨by first | rfl | trivial, ?_⟩
  refine (PB_ob (σ := sgX) (S := zS) (n := b + 2) rfl rfl (fun j hj => ?_) rfl).trans ?_
  · have hj6 : j < 1 := hj
    have : j = 0 := by omega
    subst this
    rfl
  · rfl
end NW
