/-! THE TABLES ARE RIGHT: the law -/
def am_okP (k c : Nat) : Bool := (((tm_k k).drop (50 * c)).take 50).all (fun q => decide (decode (tm_b k) q.1 = .ok (q.2.1, q.2.2.1)) && am_ck k q)
theorem am_okk_ofP {k n : Nat} (hn : (tm_k k).length ≤ 50 * n) (h : ∀ c, c < n → am_okP k c = true) : am_okk k := by
  intro q hq
  obtain ⟨i, hi⟩ := List.getElem?_of_mem hq
  have hl : i < (tm_k k).length := (List.getElem?_eq_some_iff.mp hi).1
  have h1 := h (i / 50) (by omega)
  have hm : q ∈ ((tm_k k).drop (50 * (i / 50))).take 50 := by
    refine List.mem_of_getElem? (i := i % 50) ?_
    rw [List.getElem?_take_of_lt (by omega), List.getElem?_drop, show 50 * (i / 50) + i % 50 = i by omega]
    exact hi
  have h2 := List.all_eq_true.mp h1 q hm
  obtain ⟨q1, q2⟩ := am_and h2
  exact ⟨of_decide_eq_true q1, q2⟩
theorem okL_0 : am_okP m_L_law 0 = true := by decide +kernel
theorem okL_1 : am_okP m_L_law 1 = true := by decide +kernel
theorem okL_2 : am_okP m_L_law 2 = true := by decide +kernel
