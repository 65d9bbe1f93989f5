/-! THE CLASS, NEW -/
def f0 : Nat → am_C := fun _ => .inr (0, [])
def tS : sg_S := (upd (fun _ => 0) 2 1, fun _ _ => 0)
section NS
variable {L : Nat} {xs : Nat → Int32} {l : List ch_E}
theorem pF0 {n s k : Nat} {G : Nat → am_C} {fs : List Value} {v : Value} (ho : ouT l 0) (hn : 0 < n) (hG : G 0 = .inr (4, fs)) (hk : k < fs.length) : am_pF (CH l (n, s, G)) 0 4 k v = some (CH l (n, s, va_up G 0 (.inr (4, fs.set k v)))) := by
  refine CH_pF ho ?_
  unfold am_pF
  rw [am_look_of (h := (n, s, G)) hn hG]
  show (if 4 = 4 ∧ k < fs.length then some (am_put (n, s, G) 0 (.inr (4, fs.set k v))) else none) = _
  rw [if_pos ⟨rfl, hk⟩]
  rfl
theorem CH_mid {σ : sg_T} {H : am_H} {b : Nat} {N : sg_S} : ∀ {l : List ch_E}, (∀ q ∈ l, b + σ.2.2.2.1 < q.2.1 ∨ q.2.1 + q.1.2.2.2.1 < b) → CH l (ob σ H b N) = ob σ (CH l H) b N := by
  intro l
  induction l with
  | nil => intro _; rfl
  | cons q r ih =>
    intro h
    show ob q.1 (CH r (ob σ H b N)) q.2.1 q.2.2 = ob σ (ob q.1 (CH r H) q.2.1 q.2.2) b N
    rw [ih (fun z hz => h z (List.mem_cons_of_mem _ hz))]
    have h1 := h q (List.mem_cons_self)
    exact ob_swap (by omega)
theorem CH_app {H : am_H} : ∀ (l l' : List ch_E), CH (l ++ l') H = CH l (CH l' H) := by
  intro l l'
  induction l with
  | nil => rfl
  | cons q r ih =>
    show ob q.1 (CH (r ++ l') H) q.2.1 q.2.2 = ob q.1 (CH r (CH l' H)) q.2.1 q.2.2
    rw [ih]
theorem mc_X4 : tm_mc m_X4_init = 97 ∧ tm_ms m_X4_init = 929 := by decide +kernel
theorem mcs_X1 : tm_mcs m_X1_init = (57, 456) := by decide +kernel
theorem mcs_X2 : tm_mcs m_X2_init = (1, 8) := by decide +kernel
theorem mcs_X3 : tm_mcs m_X3_init = (1, 200) := by decide +kernel
theorem rl_up {a : Nat} (h : 75 ≤ a) : ∀ i, i ≤ 8 → ouT (rl i) a := by
  intro i
  induction i with
  | zero => intro _; exact ouT_nil
  | succ i ih => intro hi; exact ouT_cons (Or.inr (by show 19 + 7 * i + 6 < a; omega)) (ih (by omega))
/-- the law's base: what is no object with arrays -/
theorem hb_eq {G : Nat → am_C} (h0 : G 0 = hb_c (0, 0, fun _ => 0) 0) (h17 : G 17 = hb_c (0, 0, fun _ => 0) 17) (h18 : G 18 = hb_c (0, 0, fun _ => 0) 18) (h75 : G 75 = hb_c (0, 0, fun _ => 0) 75) (h76 : G 76 = hb_c (0, 0, fun _ => 0) 76) (h77 : G 77 = hb_c (0, 0, fun _ => 0) 77) (h : ∀ a, ¬ a = 0 → ¬ a = 17 → ¬ a = 18 → ¬ a = 75 → ¬ a = 76 → ¬ a = 77 → G a = .inr (0, [])) : G = hb_c (0, 0, fun _ => 0) := by
  funext a
  by_cases q0 : a = 0
  · rw [q0, h0]
  · by_cases q1 : a = 17
    · rw [q1, h17]
    · by_cases q2 : a = 18
      · rw [q2, h18]
      · by_cases q3 : a = 75
        · rw [q3, h75]
        · by_cases q4 : a = 76
          · rw [q4, h76]
          · by_cases q5 : a = 77
            · rw [q5, h77]
            · rw [h a q0 q1 q2 q3 q4 q5]
              unfold hb_c
              rw [if_neg q0, if_neg q1, if_neg q2, if_neg q3, if_neg q4, if_neg q5]
end NS
