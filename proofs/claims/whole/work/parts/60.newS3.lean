/-! THE CLASS, NEW: its second half -/
section NU2
variable {L : Nat} {xs : Nat → Int32}
def lnL : List ch_E := rl 8 ++ [(sgX, 15, zS), (sgM, 8, zS), (sgM, 1, beginF zS 3 2 2 1)]
theorem lnL_ou {a : Nat} (h : a = 0 ∨ 75 ≤ a) : ouT lnL a := by
  unfold lnL
  refine ouT_app ?_ (ouT_cons (by show a < 15 ∨ 15 + 1 < a; omega) (ouT_cons (by show a < 8 ∨ 8 + 6 < a; omega) (ouT_cons (by show a < 1 ∨ 1 + 6 < a; omega) ouT_nil)))
  rcases h with h | h
  · exact rl_ou (by omega) 8
  · exact rl_up h 8 (by omega)
def kl : Nat → List ch_E
  | 0 => lnL
  | i + 1 => (sgM, 78 + 7 * i, zS) :: kl i
def tl : Nat → List ch_E
  | 0 => kl 2
  | i + 1 => (sgT, 92 + 2 * i, tS) :: tl i
theorem kl_ou {a : Nat} (h : a = 0 ∨ (75 ≤ a ∧ a < 78) ∨ 92 ≤ a) : ∀ i, i ≤ 2 → ouT (kl i) a := by
  intro i
  induction i with
  | zero => intro _; exact lnL_ou (by omega)
  | succ i ih => intro hi; exact ouT_cons (by show a < 78 + 7 * i ∨ 78 + 7 * i + 6 < a; omega) (ih (by omega))
theorem tl_ou {a : Nat} (h : a = 0 ∨ (75 ≤ a ∧ a < 78) ∨ 98 ≤ a) : ∀ i, i ≤ 3 → ouT (tl i) a := by
  intro i
  induction i with
  | zero => intro _; exact kl_ou (by omega) 2 (by omega)
  | succ i ih => intro hi; exact ouT_cons (by show a < 92 + 2 * i ∨ 92 + 2 * i + 1 < a; omega) (ih (by omega))
def rgA (ci n i : Nat) (f : Nat → Nat) : am_C := .inl (.object (am_cn ci), n, .inr (.inr (.inr (.inr (fun k => if k < i then some (f k) else none)))))
def gK (i : Nat) : Nat → am_C := va_up gS8 75 (rgA 0 2 i (fun k => 78 + 7 * k))
def gT (i : Nat) : Nat → am_C := va_up (gK 2) 77 (rgA 2 3 i (fun k => 92 + 2 * k))
theorem rg_s {ci n i : Nat} {f : Nat → Nat} (hi : i < 2 ^ 31) : rgA ci n (i + 1) f = .inl (.object (am_cn ci), n, .inr (.inr (.inr (.inr (va_up (fun k => if k < i then some (f k) else none) (nI i).toNatClampNeg (some (f i))))))) := by
  unfold rgA
  rw [nI_clamp hi]
  congr 7
  funext k
  unfold va_up
  by_cases q : k = i
  · rw [if_pos q, if_pos (by omega), q]
  · rw [if_neg q]
    show (if k < i + 1 then some (f k) else none) = (if k < i then some (f k) else none)
    by_cases q2 : k < i
    · rw [if_pos q2, if_pos (by omega)]
    · rw [if_neg q2, if_neg (by omega)]
theorem gK_0 : gK 0 = gS8 := by
  funext a
  unfold gK va_up
  by_cases q : a = 75
  · subst q
    rw [if_pos rfl]
    simp [rgA, gS8, gS7, gS6, oA, va_up]
  · rw [if_neg q]
theorem gT_0 : gT 0 = gK 2 := by
  funext a
  unfold gT va_up
  by_cases q : a = 77
  · subst q
    rw [if_pos rfl]
    simp [rgA, gK, gS8, oA, va_up]
  · rw [if_neg q]
end NU2
