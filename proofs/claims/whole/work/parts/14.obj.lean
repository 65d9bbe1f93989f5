/-! OBJECTS WITH THEIR OWN ARRAYS: an object at b, its arrays right behind it; reading and writing it -/
/-- the number of the class, how many fields, which field is which array (its number, type, length), how many arrays, which field an array is -/
abbrev sg_T : Type := Nat × Nat × (Nat → Option (Nat × FieldType × Nat)) × Nat × (Nat → Nat)
/-- numbers by field, arrays by field -/
abbrev sg_S : Type := (Nat → Int32) × (Nat → Nat → Int32)
def ob_f (σ : sg_T) (b : Nat) (S : sg_S) (k : Nat) : Value := match σ.2.2.1 k with
  | none => .int (S.1 k)
  | some q => .ref (b + 1 + q.1)
def ob_fs (σ : sg_T) (b : Nat) (S : sg_S) : List Value := (List.range σ.2.1).map (ob_f σ b S)
def ob_arr (σ : sg_T) (S : sg_S) (j : Nat) : am_C := match σ.2.2.1 (σ.2.2.2.2 j) with
  | some q => .inl (q.2.1, q.2.2, .inl (S.2 (σ.2.2.2.2 j)))
  | none => .inl (.int, 0, .inl (fun _ => 0))
def ob (σ : sg_T) (h : am_H) (b : Nat) (S : sg_S) : am_H := (h.1, h.2.1, fun a => if a = b then .inr (σ.1, ob_fs σ b S) else if b < a ∧ a ≤ b + σ.2.2.2.1 then ob_arr σ S (a - b - 1) else h.2.2 a)
section OB
variable {σ τ : sg_T} {h : am_H} {b c : Nat} {S T : sg_S} {k j n : Nat} {ty : FieldType}
theorem ob_1 : (ob σ h b S).1 = h.1 := rfl
theorem ob_2 : (ob σ h b S).2.1 = h.2.1 := rfl
theorem ob_lookb (hb : b < h.1) : am_look (ob σ h b S) b = some (.inr (σ.1, ob_fs σ b S)) := am_look_of hb (if_pos rfl)
theorem ob_looka (hj : j < σ.2.2.2.1) (hb : b + 1 + j < h.1) : am_look (ob σ h b S) (b + 1 + j) = some (ob_arr σ S j) := by
  refine am_look_of hb ?_
  show (if b + 1 + j = b then _ else if b < b + 1 + j ∧ b + 1 + j ≤ b + σ.2.2.2.1 then ob_arr σ S (b + 1 + j - b - 1) else _) = _
  rw [if_neg (by omega), if_pos ⟨by omega, by omega⟩, show b + 1 + j - b - 1 = j by omega]
theorem ob_looko {a : Nat} (ha : a < b ∨ b + σ.2.2.2.1 < a) : am_look (ob σ h b S) a = am_look h a := by
  unfold am_look
  show (if a < h.1 then some (if a = b then _ else if b < a ∧ a ≤ b + σ.2.2.2.1 then ob_arr σ S (a - b - 1) else h.2.2 a) else none) = _
  rw [if_neg (show ¬ a = b by omega), if_neg (show ¬ (b < a ∧ a ≤ b + σ.2.2.2.1) by omega)]
theorem ob_fs_at (hk : k < σ.2.1) : (ob_fs σ b S)[k]? = some (ob_f σ b S k) := by simp [ob_fs, hk]
theorem ob_fld (hb : b < h.1) (hk : k < σ.2.1) : am_fld (ob σ h b S) b σ.1 k = some (ob_f σ b S k) := by
  unfold am_fld
  rw [ob_lookb hb]
  show (if σ.1 = σ.1 then (ob_fs σ b S)[k]? else none) = _
  rw [if_pos rfl, ob_fs_at hk]
theorem ob_gI (hb : b < h.1) (hk : k < σ.2.1) (e : σ.2.2.1 k = none) : am_gI (ob σ h b S) b σ.1 k = some (S.1 k) := by
  unfold am_gI
  rw [ob_fld hb hk, show ob_f σ b S k = .int (S.1 k) by unfold ob_f; rw [e]]
theorem ob_gR {q : Nat × FieldType × Nat} (hb : b < h.1) (hk : k < σ.2.1) (e : σ.2.2.1 k = some q) : am_gR (ob σ h b S) b σ.1 k = some (b + 1 + q.1) := by
  unfold am_gR
  rw [ob_fld hb hk, show ob_f σ b S k = .ref (b + 1 + q.1) by unfold ob_f; rw [e]]
theorem ob_cls (hb : b < h.1) : am_cls (ob σ h b S) b = some σ.1 := by
  unfold am_cls
  rw [ob_lookb hb]
theorem ob_ii (e : σ.2.2.1 k = some (j, ty, n)) (ei : σ.2.2.2.2 j = k) (hj : j < σ.2.2.2.1) (hb : b + 1 + j < h.1) : am_ii (ob σ h b S) (b + 1 + j) = some (ty, n, S.2 k) := by
  unfold am_ii
  rw [ob_looka hj hb, show ob_arr σ S j = .inl (ty, n, .inl (S.2 k)) by unfold ob_arr; rw [ei, e]]
theorem ob_put {f : Nat → Int32} (e : σ.2.2.1 k = some (j, ty, n)) (ei : σ.2.2.2.2 j = k) (hu : ∀ i, i < σ.2.2.2.1 → σ.2.2.2.2 i = k → i = j) (hj : j < σ.2.2.2.1) : am_put (ob σ h b S) (b + 1 + j) (.inl (ty, n, .inl f)) = ob σ h b (S.1, va_up S.2 k f) := by
  refine Prod.ext rfl (Prod.ext rfl ?_)
  funext a
  show va_up (ob σ h b S).2.2 (b + 1 + j) (.inl (ty, n, .inl f)) a = (if a = b then .inr (σ.1, ob_fs σ b (S.1, va_up S.2 k f)) else if b < a ∧ a ≤ b + σ.2.2.2.1 then ob_arr σ (S.1, va_up S.2 k f) (a - b - 1) else h.2.2 a)
  unfold va_up
  by_cases h1 : a = b + 1 + j
  · rw [if_pos h1, if_neg (show ¬ a = b by omega), if_pos (show b < a ∧ a ≤ b + σ.2.2.2.1 by omega), show a - b - 1 = j by omega]
    unfold ob_arr
    rw [ei, e]
    simp
  · rw [if_neg h1]
    show (if a = b then .inr (σ.1, ob_fs σ b S) else if b < a ∧ a ≤ b + σ.2.2.2.1 then ob_arr σ S (a - b - 1) else h.2.2 a) = _
    by_cases h2 : a = b
    · rw [if_pos h2, if_pos h2]
      rfl
    · rw [if_neg h2, if_neg h2]
      by_cases h3 : b < a ∧ a ≤ b + σ.2.2.2.1
      · rw [if_pos h3, if_pos h3]
        have h4 : ¬ σ.2.2.2.2 (a - b - 1) = k := fun z => by
          have := hu _ (by omega) z
          omega
        unfold ob_arr
        simp only [if_neg h4]
      · rw [if_neg h3, if_neg h3]
theorem ob_in {i : Nat} (hi : i < n) (hn : n < 2 ^ 31) : ¬ (nI i < 0 ∨ n ≤ (nI i).toNatClampNeg) := nI_in hi hn
theorem ob_lI {i : Nat} (e : σ.2.2.1 k = some (j, ty, n)) (ei : σ.2.2.2.2 j = k) (hj : j < σ.2.2.2.1) (hn : n < 2 ^ 31) (hb : b + 1 + j < h.1) (hi : i < n) : am_lI (ob σ h b S) ty (b + 1 + j) (nI i) = some (S.2 k i) := by
  unfold am_lI
  rw [ob_ii e ei hj hb]
  show (if ty = ty ∧ ¬ (nI i < 0 ∨ n ≤ (nI i).toNatClampNeg) then some (S.2 k (nI i).toNatClampNeg) else none) = _
  rw [if_pos ⟨rfl, ob_in hi hn⟩, nI_clamp (by omega)]
theorem ob_sI {i : Nat} {x : Int32} (e : σ.2.2.1 k = some (j, ty, n)) (ei : σ.2.2.2.2 j = k) (hu : ∀ i, i < σ.2.2.2.1 → σ.2.2.2.2 i = k → i = j) (hj : j < σ.2.2.2.1) (hn : n < 2 ^ 31) (hb : b + 1 + j < h.1) (hi : i < n) : am_sI (ob σ h b S) ty (b + 1 + j) (nI i) x = some (ob σ h b (S.1, va_up S.2 k (upd (S.2 k) i x))) := by
  unfold am_sI
  rw [ob_ii e ei hj hb]
  show (if ty = ty ∧ ¬ (nI i < 0 ∨ n ≤ (nI i).toNatClampNeg) then some (am_put (ob σ h b S) (b + 1 + j) (.inl (ty, n, .inl (upd (S.2 k) (nI i).toNatClampNeg x)))) else none) = _
  rw [if_pos ⟨rfl, ob_in hi hn⟩, nI_clamp (by omega), ob_put e ei hu hj]
theorem ob_len (e : σ.2.2.1 k = some (j, .int, n)) (ei : σ.2.2.2.2 j = k) (hj : j < σ.2.2.2.1) (hb : b + 1 + j < h.1) : am_len (ob σ h b S) (b + 1 + j) = some (nI n) := by
  unfold am_len
  rw [ob_looka hj hb, show ob_arr σ S j = .inl (.int, n, .inl (S.2 k)) by unfold ob_arr; rw [ei, e]]
theorem ob_pF {x : Int32} (hb : b < h.1) (hk : k < σ.2.1) (e : σ.2.2.1 k = none) : am_pF (ob σ h b S) b σ.1 k (.int x) = some (ob σ h b (upd S.1 k x, S.2)) := by
  unfold am_pF
  rw [ob_lookb hb]
  show (if σ.1 = σ.1 ∧ k < (ob_fs σ b S).length then some (am_put (ob σ h b S) b (.inr (σ.1, (ob_fs σ b S).set k (.int x)))) else none) = _
  rw [if_pos ⟨rfl, by simp [ob_fs, hk]⟩]
  have ef : (ob_fs σ b S).set k (.int x) = ob_fs σ b (upd S.1 k x, S.2) := by
    apply List.ext_getElem?
    intro i
    rw [List.getElem?_set]
    by_cases hi : i < σ.2.1
    · rw [ob_fs_at (S := (upd S.1 k x, S.2)) hi]
      by_cases hki : k = i
      · subst hki
        rw [if_pos rfl, if_pos (by simp [ob_fs, hk])]
        unfold ob_f
        rw [e]
        simp [upd]
      · rw [if_neg hki, ob_fs_at hi]
        have hik : ¬ i = k := fun z => hki z.symm
        unfold ob_f
        cases σ.2.2.1 i with
        | none => simp [upd, hik]
        | some q => rfl
    · have l1 : ∀ S : sg_S, (ob_fs σ b S).length ≤ i := fun S => by simp [ob_fs]; omega
      rw [if_neg (show ¬ k = i by omega), List.getElem?_eq_none (l1 _), List.getElem?_eq_none (l1 _)]
  rw [ef]
  congr 1
  refine Prod.ext rfl (Prod.ext rfl ?_)
  funext a
  show va_up (ob σ h b S).2.2 b (.inr (σ.1, ob_fs σ b (upd S.1 k x, S.2))) a = (if a = b then .inr (σ.1, ob_fs σ b (upd S.1 k x, S.2)) else if b < a ∧ a ≤ b + σ.2.2.2.1 then ob_arr σ (upd S.1 k x, S.2) (a - b - 1) else h.2.2 a)
  unfold va_up
  by_cases h1 : a = b
  · rw [if_pos h1, if_pos h1]
  · rw [if_neg h1, if_neg h1]
    show (if a = b then .inr (σ.1, ob_fs σ b S) else if b < a ∧ a ≤ b + σ.2.2.2.1 then ob_arr σ S (a - b - 1) else h.2.2 a) = _
    rw [if_neg h1]
    rfl
/-- two objects apart: the order doesn't matter -/
theorem ob_swap (hd : b + σ.2.2.2.1 < c ∨ c + τ.2.2.2.1 < b) : ob σ (ob τ h c T) b S = ob τ (ob σ h b S) c T := by
  refine Prod.ext rfl (Prod.ext rfl ?_)
  funext a
  show (if a = b then .inr (σ.1, ob_fs σ b S) else if b < a ∧ a ≤ b + σ.2.2.2.1 then ob_arr σ S (a - b - 1) else (if a = c then .inr (τ.1, ob_fs τ c T) else if c < a ∧ a ≤ c + τ.2.2.2.1 then ob_arr τ T (a - c - 1) else h.2.2 a)) = (if a = c then .inr (τ.1, ob_fs τ c T) else if c < a ∧ a ≤ c + τ.2.2.2.1 then ob_arr τ T (a - c - 1) else (if a = b then .inr (σ.1, ob_fs σ b S) else if b < a ∧ a ≤ b + σ.2.2.2.1 then ob_arr σ S (a - b - 1) else h.2.2 a))
  by_cases h1 : b ≤ a ∧ a ≤ b + σ.2.2.2.1
  · have q1 : ¬ a = c := by omega
    have q2 : ¬ (c < a ∧ a ≤ c + τ.2.2.2.1) := by omega
    by_cases h2 : a = b
    · simp only [if_neg q1, if_neg q2, if_pos h2]
    · simp only [if_neg q1, if_neg q2, if_neg h2, if_pos (show b < a ∧ a ≤ b + σ.2.2.2.1 by omega)]
  · have q1 : ¬ a = b := by omega
    have q2 : ¬ (b < a ∧ a ≤ b + σ.2.2.2.1) := by omega
    simp only [if_neg q1, if_neg q2]
theorem ob_ob : ob σ (ob σ h b S) b T = ob σ h b T := by
  refine Prod.ext rfl (Prod.ext rfl ?_)
  funext a
  show (if a = b then .inr (σ.1, ob_fs σ b T) else if b < a ∧ a ≤ b + σ.2.2.2.1 then ob_arr σ T (a - b - 1) else (if a = b then .inr (σ.1, ob_fs σ b S) else if b < a ∧ a ≤ b + σ.2.2.2.1 then ob_arr σ S (a - b - 1) else h.2.2 a)) = (if a = b then .inr (σ.1, ob_fs σ b T) else if b < a ∧ a ≤ b + σ.2.2.2.1 then ob_arr σ T (a - b - 1) else h.2.2 a)
  by_cases h1 : a = b
  · rw [if_pos h1, if_pos h1]
  · rw [if_neg h1, if_neg h1, if_neg h1]
    by_cases h2 : b < a ∧ a ≤ b + σ.2.2.2.1
    · rw [if_pos h2, if_pos h2]
    · rw [if_neg h2, if_neg h2, if_neg h2]
end OB
-- the classes
def sgM : sg_T := (0, 11, fun k => if k < 5 then none else some (k - 5, .int, if k = 9 then 5 else 8), 6, fun j => j + 5)
def sgT : sg_T := (2, 3, fun k => if k = 0 then some (0, .int, 8) else none, 1, fun _ => 0)
def sgX : sg_T := (3, 6, fun k => if k = 0 then some (0, .int, 200) else none, 1, fun _ => 0)
def sgD_k (k : Nat) : Option (Nat × FieldType × Nat) := match k with
  | 0 => some (0, .int, 372)
  | 4 => some (1, .int, 8)
  | 6 => some (2, .boolean, 2)
  | 7 => some (3, .int, 200)
  | 9 => some (4, .int, 3)
  | 10 => some (5, .int, 24)
  | 16 => some (6, .int, 4)
  | 17 => some (7, .int, 20)
  | 18 => some (8, .int, 8)
  | 19 => some (9, .int, 8)
  | _ => none
def sgD_i (j : Nat) : Nat := match j with
  | 0 => 0
  | 1 => 4
  | 2 => 6
  | 3 => 7
  | 4 => 9
  | 5 => 10
  | 6 => 16
  | 7 => 17
  | 8 => 18
  | _ => 19
def sgD : sg_T := (5, 20, sgD_k, 10, sgD_i)
section OM
variable {h : am_H} {b : Nat} {S : sg_S}
theorem cM (hb : b + 6 < h.1) : am_cls (ob sgM h b S) b = some 0 := ob_cls (by omega)
theorem gM_0 (hb : b + 6 < h.1) : am_gI (ob sgM h b S) b 0 0 = some (S.1 0) := ob_gI (σ := sgM) (by omega) (by decide) rfl
theorem pM_0 (hb : b + 6 < h.1) {x : Int32} : am_pF (ob sgM h b S) b 0 0 (.int x) = some (ob sgM h b (upd S.1 0 x, S.2)) := ob_pF (σ := sgM) (by omega) (by decide) rfl
theorem gM_1 (hb : b + 6 < h.1) : am_gI (ob sgM h b S) b 0 1 = some (S.1 1) := ob_gI (σ := sgM) (by omega) (by decide) rfl
theorem pM_1 (hb : b + 6 < h.1) {x : Int32} : am_pF (ob sgM h b S) b 0 1 (.int x) = some (ob sgM h b (upd S.1 1 x, S.2)) := ob_pF (σ := sgM) (by omega) (by decide) rfl
theorem gM_2 (hb : b + 6 < h.1) : am_gI (ob sgM h b S) b 0 2 = some (S.1 2) := ob_gI (σ := sgM) (by omega) (by decide) rfl
theorem pM_2 (hb : b + 6 < h.1) {x : Int32} : am_pF (ob sgM h b S) b 0 2 (.int x) = some (ob sgM h b (upd S.1 2 x, S.2)) := ob_pF (σ := sgM) (by omega) (by decide) rfl
theorem gM_3 (hb : b + 6 < h.1) : am_gI (ob sgM h b S) b 0 3 = some (S.1 3) := ob_gI (σ := sgM) (by omega) (by decide) rfl
theorem pM_3 (hb : b + 6 < h.1) {x : Int32} : am_pF (ob sgM h b S) b 0 3 (.int x) = some (ob sgM h b (upd S.1 3 x, S.2)) := ob_pF (σ := sgM) (by omega) (by decide) rfl
theorem gM_4 (hb : b + 6 < h.1) : am_gI (ob sgM h b S) b 0 4 = some (S.1 4) := ob_gI (σ := sgM) (by omega) (by decide) rfl
theorem pM_4 (hb : b + 6 < h.1) {x : Int32} : am_pF (ob sgM h b S) b 0 4 (.int x) = some (ob sgM h b (upd S.1 4 x, S.2)) := ob_pF (σ := sgM) (by omega) (by decide) rfl
theorem gM_5 (hb : b + 6 < h.1) : am_gR (ob sgM h b S) b 0 5 = some (b + 1) := ob_gR (σ := sgM) (q := (0, .int, 8)) (by omega) (by decide) rfl
theorem lM_5 (hb : b + 6 < h.1) {i : Nat} (hi : i < 8) : am_lI (ob sgM h b S) .int (b + 1) (nI i) = some (S.2 5 i) := ob_lI (σ := sgM) (j := 0) rfl rfl (by decide) (by decide) (by omega) hi
theorem sM_5 (hb : b + 6 < h.1) {i : Nat} {x : Int32} (hi : i < 8) : am_sI (ob sgM h b S) .int (b + 1) (nI i) x = some (ob sgM h b (S.1, va_up S.2 5 (upd (S.2 5) i x))) := ob_sI (σ := sgM) (j := 0) rfl rfl (by decide) (by decide) (by decide) (by omega) hi
theorem iM_5 (hb : b + 6 < h.1) : am_ii (ob sgM h b S) (b + 1) = some (.int, 8, S.2 5) := ob_ii (σ := sgM) (j := 0) rfl rfl (by decide) (by omega)
theorem uM_5 {f : Nat → Int32} : am_put (ob sgM h b S) (b + 1) (.inl (.int, 8, .inl f)) = ob sgM h b (S.1, va_up S.2 5 f) := ob_put (σ := sgM) (j := 0) rfl rfl (by decide) (by decide)
theorem nM_5 (hb : b + 6 < h.1) : am_len (ob sgM h b S) (b + 1) = some (nI 8) := ob_len (σ := sgM) (j := 0) rfl rfl (by decide) (by omega)
theorem gM_6 (hb : b + 6 < h.1) : am_gR (ob sgM h b S) b 0 6 = some (b + 2) := ob_gR (σ := sgM) (q := (1, .int, 8)) (by omega) (by decide) rfl
theorem lM_6 (hb : b + 6 < h.1) {i : Nat} (hi : i < 8) : am_lI (ob sgM h b S) .int (b + 2) (nI i) = some (S.2 6 i) := ob_lI (σ := sgM) (j := 1) rfl rfl (by decide) (by decide) (by omega) hi
theorem sM_6 (hb : b + 6 < h.1) {i : Nat} {x : Int32} (hi : i < 8) : am_sI (ob sgM h b S) .int (b + 2) (nI i) x = some (ob sgM h b (S.1, va_up S.2 6 (upd (S.2 6) i x))) := ob_sI (σ := sgM) (j := 1) rfl rfl (by decide) (by decide) (by decide) (by omega) hi
theorem iM_6 (hb : b + 6 < h.1) : am_ii (ob sgM h b S) (b + 2) = some (.int, 8, S.2 6) := ob_ii (σ := sgM) (j := 1) rfl rfl (by decide) (by omega)
theorem uM_6 {f : Nat → Int32} : am_put (ob sgM h b S) (b + 2) (.inl (.int, 8, .inl f)) = ob sgM h b (S.1, va_up S.2 6 f) := ob_put (σ := sgM) (j := 1) rfl rfl (by decide) (by decide)
theorem nM_6 (hb : b + 6 < h.1) : am_len (ob sgM h b S) (b + 2) = some (nI 8) := ob_len (σ := sgM) (j := 1) rfl rfl (by decide) (by omega)
theorem gM_7 (hb : b + 6 < h.1) : am_gR (ob sgM h b S) b 0 7 = some (b + 3) := ob_gR (σ := sgM) (q := (2, .int, 8)) (by omega) (by decide) rfl
theorem lM_7 (hb : b + 6 < h.1) {i : Nat} (hi : i < 8) : am_lI (ob sgM h b S) .int (b + 3) (nI i) = some (S.2 7 i) := ob_lI (σ := sgM) (j := 2) rfl rfl (by decide) (by decide) (by omega) hi
theorem sM_7 (hb : b + 6 < h.1) {i : Nat} {x : Int32} (hi : i < 8) : am_sI (ob sgM h b S) .int (b + 3) (nI i) x = some (ob sgM h b (S.1, va_up S.2 7 (upd (S.2 7) i x))) := ob_sI (σ := sgM) (j := 2) rfl rfl (by decide) (by decide) (by decide) (by omega) hi
theorem iM_7 (hb : b + 6 < h.1) : am_ii (ob sgM h b S) (b + 3) = some (.int, 8, S.2 7) := ob_ii (σ := sgM) (j := 2) rfl rfl (by decide) (by omega)
theorem uM_7 {f : Nat → Int32} : am_put (ob sgM h b S) (b + 3) (.inl (.int, 8, .inl f)) = ob sgM h b (S.1, va_up S.2 7 f) := ob_put (σ := sgM) (j := 2) rfl rfl (by decide) (by decide)
theorem nM_7 (hb : b + 6 < h.1) : am_len (ob sgM h b S) (b + 3) = some (nI 8) := ob_len (σ := sgM) (j := 2) rfl rfl (by decide) (by omega)
theorem gM_8 (hb : b + 6 < h.1) : am_gR (ob sgM h b S) b 0 8 = some (b + 4) := ob_gR (σ := sgM) (q := (3, .int, 8)) (by omega) (by decide) rfl
theorem lM_8 (hb : b + 6 < h.1) {i : Nat} (hi : i < 8) : am_lI (ob sgM h b S) .int (b + 4) (nI i) = some (S.2 8 i) := ob_lI (σ := sgM) (j := 3) rfl rfl (by decide) (by decide) (by omega) hi
theorem sM_8 (hb : b + 6 < h.1) {i : Nat} {x : Int32} (hi : i < 8) : am_sI (ob sgM h b S) .int (b + 4) (nI i) x = some (ob sgM h b (S.1, va_up S.2 8 (upd (S.2 8) i x))) := ob_sI (σ := sgM) (j := 3) rfl rfl (by decide) (by decide) (by decide) (by omega) hi
theorem iM_8 (hb : b + 6 < h.1) : am_ii (ob sgM h b S) (b + 4) = some (.int, 8, S.2 8) := ob_ii (σ := sgM) (j := 3) rfl rfl (by decide) (by omega)
theorem uM_8 {f : Nat → Int32} : am_put (ob sgM h b S) (b + 4) (.inl (.int, 8, .inl f)) = ob sgM h b (S.1, va_up S.2 8 f) := ob_put (σ := sgM) (j := 3) rfl rfl (by decide) (by decide)
theorem nM_8 (hb : b + 6 < h.1) : am_len (ob sgM h b S) (b + 4) = some (nI 8) := ob_len (σ := sgM) (j := 3) rfl rfl (by decide) (by omega)
theorem gM_9 (hb : b + 6 < h.1) : am_gR (ob sgM h b S) b 0 9 = some (b + 5) := ob_gR (σ := sgM) (q := (4, .int, 5)) (by omega) (by decide) rfl
theorem lM_9 (hb : b + 6 < h.1) {i : Nat} (hi : i < 5) : am_lI (ob sgM h b S) .int (b + 5) (nI i) = some (S.2 9 i) := ob_lI (σ := sgM) (j := 4) rfl rfl (by decide) (by decide) (by omega) hi
theorem sM_9 (hb : b + 6 < h.1) {i : Nat} {x : Int32} (hi : i < 5) : am_sI (ob sgM h b S) .int (b + 5) (nI i) x = some (ob sgM h b (S.1, va_up S.2 9 (upd (S.2 9) i x))) := ob_sI (σ := sgM) (j := 4) rfl rfl (by decide) (by decide) (by decide) (by omega) hi
theorem iM_9 (hb : b + 6 < h.1) : am_ii (ob sgM h b S) (b + 5) = some (.int, 5, S.2 9) := ob_ii (σ := sgM) (j := 4) rfl rfl (by decide) (by omega)
theorem uM_9 {f : Nat → Int32} : am_put (ob sgM h b S) (b + 5) (.inl (.int, 5, .inl f)) = ob sgM h b (S.1, va_up S.2 9 f) := ob_put (σ := sgM) (j := 4) rfl rfl (by decide) (by decide)
theorem nM_9 (hb : b + 6 < h.1) : am_len (ob sgM h b S) (b + 5) = some (nI 5) := ob_len (σ := sgM) (j := 4) rfl rfl (by decide) (by omega)
theorem gM_10 (hb : b + 6 < h.1) : am_gR (ob sgM h b S) b 0 10 = some (b + 6) := ob_gR (σ := sgM) (q := (5, .int, 8)) (by omega) (by decide) rfl
theorem lM_10 (hb : b + 6 < h.1) {i : Nat} (hi : i < 8) : am_lI (ob sgM h b S) .int (b + 6) (nI i) = some (S.2 10 i) := ob_lI (σ := sgM) (j := 5) rfl rfl (by decide) (by decide) (by omega) hi
theorem sM_10 (hb : b + 6 < h.1) {i : Nat} {x : Int32} (hi : i < 8) : am_sI (ob sgM h b S) .int (b + 6) (nI i) x = some (ob sgM h b (S.1, va_up S.2 10 (upd (S.2 10) i x))) := ob_sI (σ := sgM) (j := 5) rfl rfl (by decide) (by decide) (by decide) (by omega) hi
theorem iM_10 (hb : b + 6 < h.1) : am_ii (ob sgM h b S) (b + 6) = some (.int, 8, S.2 10) := ob_ii (σ := sgM) (j := 5) rfl rfl (by decide) (by omega)
theorem uM_10 {f : Nat → Int32} : am_put (ob sgM h b S) (b + 6) (.inl (.int, 8, .inl f)) = ob sgM h b (S.1, va_up S.2 10 f) := ob_put (σ := sgM) (j := 5) rfl rfl (by decide) (by decide)
theorem nM_10 (hb : b + 6 < h.1) : am_len (ob sgM h b S) (b + 6) = some (nI 8) := ob_len (σ := sgM) (j := 5) rfl rfl (by decide) (by omega)
end OM
section OT
variable {h : am_H} {b : Nat} {S : sg_S}
theorem cT (hb : b + 1 < h.1) : am_cls (ob sgT h b S) b = some 2 := ob_cls (by omega)
theorem gT_0 (hb : b + 1 < h.1) : am_gR (ob sgT h b S) b 2 0 = some (b + 1) := ob_gR (σ := sgT) (q := (0, .int, 8)) (by omega) (by decide) rfl
theorem lT_0 (hb : b + 1 < h.1) {i : Nat} (hi : i < 8) : am_lI (ob sgT h b S) .int (b + 1) (nI i) = some (S.2 0 i) := ob_lI (σ := sgT) (j := 0) rfl rfl (by decide) (by decide) (by omega) hi
theorem sT_0 (hb : b + 1 < h.1) {i : Nat} {x : Int32} (hi : i < 8) : am_sI (ob sgT h b S) .int (b + 1) (nI i) x = some (ob sgT h b (S.1, va_up S.2 0 (upd (S.2 0) i x))) := ob_sI (σ := sgT) (j := 0) rfl rfl (by decide) (by decide) (by decide) (by omega) hi
theorem iT_0 (hb : b + 1 < h.1) : am_ii (ob sgT h b S) (b + 1) = some (.int, 8, S.2 0) := ob_ii (σ := sgT) (j := 0) rfl rfl (by decide) (by omega)
theorem uT_0 {f : Nat → Int32} : am_put (ob sgT h b S) (b + 1) (.inl (.int, 8, .inl f)) = ob sgT h b (S.1, va_up S.2 0 f) := ob_put (σ := sgT) (j := 0) rfl rfl (by decide) (by decide)
theorem nT_0 (hb : b + 1 < h.1) : am_len (ob sgT h b S) (b + 1) = some (nI 8) := ob_len (σ := sgT) (j := 0) rfl rfl (by decide) (by omega)
theorem gT_1 (hb : b + 1 < h.1) : am_gI (ob sgT h b S) b 2 1 = some (S.1 1) := ob_gI (σ := sgT) (by omega) (by decide) rfl
theorem pT_1 (hb : b + 1 < h.1) {x : Int32} : am_pF (ob sgT h b S) b 2 1 (.int x) = some (ob sgT h b (upd S.1 1 x, S.2)) := ob_pF (σ := sgT) (by omega) (by decide) rfl
theorem gT_2 (hb : b + 1 < h.1) : am_gI (ob sgT h b S) b 2 2 = some (S.1 2) := ob_gI (σ := sgT) (by omega) (by decide) rfl
theorem pT_2 (hb : b + 1 < h.1) {x : Int32} : am_pF (ob sgT h b S) b 2 2 (.int x) = some (ob sgT h b (upd S.1 2 x, S.2)) := ob_pF (σ := sgT) (by omega) (by decide) rfl
end OT
section OX
variable {h : am_H} {b : Nat} {S : sg_S}
theorem cX (hb : b + 1 < h.1) : am_cls (ob sgX h b S) b = some 3 := ob_cls (by omega)
theorem gX_0 (hb : b + 1 < h.1) : am_gR (ob sgX h b S) b 3 0 = some (b + 1) := ob_gR (σ := sgX) (q := (0, .int, 200)) (by omega) (by decide) rfl
theorem lX_0 (hb : b + 1 < h.1) {i : Nat} (hi : i < 200) : am_lI (ob sgX h b S) .int (b + 1) (nI i) = some (S.2 0 i) := ob_lI (σ := sgX) (j := 0) rfl rfl (by decide) (by decide) (by omega) hi
theorem sX_0 (hb : b + 1 < h.1) {i : Nat} {x : Int32} (hi : i < 200) : am_sI (ob sgX h b S) .int (b + 1) (nI i) x = some (ob sgX h b (S.1, va_up S.2 0 (upd (S.2 0) i x))) := ob_sI (σ := sgX) (j := 0) rfl rfl (by decide) (by decide) (by decide) (by omega) hi
theorem iX_0 (hb : b + 1 < h.1) : am_ii (ob sgX h b S) (b + 1) = some (.int, 200, S.2 0) := ob_ii (σ := sgX) (j := 0) rfl rfl (by decide) (by omega)
theorem uX_0 {f : Nat → Int32} : am_put (ob sgX h b S) (b + 1) (.inl (.int, 200, .inl f)) = ob sgX h b (S.1, va_up S.2 0 f) := ob_put (σ := sgX) (j := 0) rfl rfl (by decide) (by decide)
theorem nX_0 (hb : b + 1 < h.1) : am_len (ob sgX h b S) (b + 1) = some (nI 200) := ob_len (σ := sgX) (j := 0) rfl rfl (by decide) (by omega)
theorem gX_1 (hb : b + 1 < h.1) : am_gI (ob sgX h b S) b 3 1 = some (S.1 1) := ob_gI (σ := sgX) (by omega) (by decide) rfl
theorem pX_1 (hb : b + 1 < h.1) {x : Int32} : am_pF (ob sgX h b S) b 3 1 (.int x) = some (ob sgX h b (upd S.1 1 x, S.2)) := ob_pF (σ := sgX) (by omega) (by decide) rfl
theorem gX_2 (hb : b + 1 < h.1) : am_gI (ob sgX h b S) b 3 2 = some (S.1 2) := ob_gI (σ := sgX) (by omega) (by decide) rfl
theorem pX_2 (hb : b + 1 < h.1) {x : Int32} : am_pF (ob sgX h b S) b 3 2 (.int x) = some (ob sgX h b (upd S.1 2 x, S.2)) := ob_pF (σ := sgX) (by omega) (by decide) rfl
theorem gX_3 (hb : b + 1 < h.1) : am_gI (ob sgX h b S) b 3 3 = some (S.1 3) := ob_gI (σ := sgX) (by omega) (by decide) rfl
theorem pX_3 (hb : b + 1 < h.1) {x : Int32} : am_pF (ob sgX h b S) b 3 3 (.int x) = some (ob sgX h b (upd S.1 3 x, S.2)) := ob_pF (σ := sgX) (by omega) (by decide) rfl
theorem gX_4 (hb : b + 1 < h.1) : am_gI (ob sgX h b S) b 3 4 = some (S.1 4) := ob_gI (σ := sgX) (by omega) (by decide) rfl
theorem pX_4 (hb : b + 1 < h.1) {x : Int32} : am_pF (ob sgX h b S) b 3 4 (.int x) = some (ob sgX h b (upd S.1 4 x, S.2)) := ob_pF (σ := sgX) (by omega) (by decide) rfl
theorem gX_5 (hb : b + 1 < h.1) : am_gI (ob sgX h b S) b 3 5 = some (S.1 5) := ob_gI (σ := sgX) (by omega) (by decide) rfl
theorem pX_5 (hb : b + 1 < h.1) {x : Int32} : am_pF (ob sgX h b S) b 3 5 (.int x) = some (ob sgX h b (upd S.1 5 x, S.2)) := ob_pF (σ := sgX) (by omega) (by decide) rfl
end OX
section OD
variable {h : am_H} {b : Nat} {S : sg_S}
theorem cD (hb : b + 10 < h.1) : am_cls (ob sgD h b S) b = some 5 := ob_cls (by omega)
theorem gD_0 (hb : b + 10 < h.1) : am_gR (ob sgD h b S) b 5 0 = some (b + 1) := ob_gR (σ := sgD) (q := (0, .int, 372)) (by omega) (by decide) rfl
theorem lD_0 (hb : b + 10 < h.1) {i : Nat} (hi : i < 372) : am_lI (ob sgD h b S) .int (b + 1) (nI i) = some (S.2 0 i) := ob_lI (σ := sgD) (j := 0) rfl rfl (by decide) (by decide) (by omega) hi
theorem sD_0 (hb : b + 10 < h.1) {i : Nat} {x : Int32} (hi : i < 372) : am_sI (ob sgD h b S) .int (b + 1) (nI i) x = some (ob sgD h b (S.1, va_up S.2 0 (upd (S.2 0) i x))) := ob_sI (σ := sgD) (j := 0) rfl rfl (by decide) (by decide) (by decide) (by omega) hi
theorem iD_0 (hb : b + 10 < h.1) : am_ii (ob sgD h b S) (b + 1) = some (.int, 372, S.2 0) := ob_ii (σ := sgD) (j := 0) rfl rfl (by decide) (by omega)
theorem uD_0 {f : Nat → Int32} : am_put (ob sgD h b S) (b + 1) (.inl (.int, 372, .inl f)) = ob sgD h b (S.1, va_up S.2 0 f) := ob_put (σ := sgD) (j := 0) rfl rfl (by decide) (by decide)
theorem nD_0 (hb : b + 10 < h.1) : am_len (ob sgD h b S) (b + 1) = some (nI 372) := ob_len (σ := sgD) (j := 0) rfl rfl (by decide) (by omega)
theorem gD_1 (hb : b + 10 < h.1) : am_gI (ob sgD h b S) b 5 1 = some (S.1 1) := ob_gI (σ := sgD) (by omega) (by decide) rfl
theorem pD_1 (hb : b + 10 < h.1) {x : Int32} : am_pF (ob sgD h b S) b 5 1 (.int x) = some (ob sgD h b (upd S.1 1 x, S.2)) := ob_pF (σ := sgD) (by omega) (by decide) rfl
theorem gD_2 (hb : b + 10 < h.1) : am_gI (ob sgD h b S) b 5 2 = some (S.1 2) := ob_gI (σ := sgD) (by omega) (by decide) rfl
theorem pD_2 (hb : b + 10 < h.1) {x : Int32} : am_pF (ob sgD h b S) b 5 2 (.int x) = some (ob sgD h b (upd S.1 2 x, S.2)) := ob_pF (σ := sgD) (by omega) (by decide) rfl
theorem gD_3 (hb : b + 10 < h.1) : am_gI (ob sgD h b S) b 5 3 = some (S.1 3) := ob_gI (σ := sgD) (by omega) (by decide) rfl
theorem pD_3 (hb : b + 10 < h.1) {x : Int32} : am_pF (ob sgD h b S) b 5 3 (.int x) = some (ob sgD h b (upd S.1 3 x, S.2)) := ob_pF (σ := sgD) (by omega) (by decide) rfl
theorem gD_4 (hb : b + 10 < h.1) : am_gR (ob sgD h b S) b 5 4 = some (b + 2) := ob_gR (σ := sgD) (q := (1, .int, 8)) (by omega) (by decide) rfl
theorem lD_4 (hb : b + 10 < h.1) {i : Nat} (hi : i < 8) : am_lI (ob sgD h b S) .int (b + 2) (nI i) = some (S.2 4 i) := ob_lI (σ := sgD) (j := 1) rfl rfl (by decide) (by decide) (by omega) hi
theorem sD_4 (hb : b + 10 < h.1) {i : Nat} {x : Int32} (hi : i < 8) : am_sI (ob sgD h b S) .int (b + 2) (nI i) x = some (ob sgD h b (S.1, va_up S.2 4 (upd (S.2 4) i x))) := ob_sI (σ := sgD) (j := 1) rfl rfl (by decide) (by decide) (by decide) (by omega) hi
theorem iD_4 (hb : b + 10 < h.1) : am_ii (ob sgD h b S) (b + 2) = some (.int, 8, S.2 4) := ob_ii (σ := sgD) (j := 1) rfl rfl (by decide) (by omega)
theorem uD_4 {f : Nat → Int32} : am_put (ob sgD h b S) (b + 2) (.inl (.int, 8, .inl f)) = ob sgD h b (S.1, va_up S.2 4 f) := ob_put (σ := sgD) (j := 1) rfl rfl (by decide) (by decide)
theorem nD_4 (hb : b + 10 < h.1) : am_len (ob sgD h b S) (b + 2) = some (nI 8) := ob_len (σ := sgD) (j := 1) rfl rfl (by decide) (by omega)
theorem gD_5 (hb : b + 10 < h.1) : am_gI (ob sgD h b S) b 5 5 = some (S.1 5) := ob_gI (σ := sgD) (by omega) (by decide) rfl
theorem pD_5 (hb : b + 10 < h.1) {x : Int32} : am_pF (ob sgD h b S) b 5 5 (.int x) = some (ob sgD h b (upd S.1 5 x, S.2)) := ob_pF (σ := sgD) (by omega) (by decide) rfl
theorem gD_6 (hb : b + 10 < h.1) : am_gR (ob sgD h b S) b 5 6 = some (b + 3) := ob_gR (σ := sgD) (q := (2, .boolean, 2)) (by omega) (by decide) rfl
theorem lD_6 (hb : b + 10 < h.1) {i : Nat} (hi : i < 2) : am_lI (ob sgD h b S) .boolean (b + 3) (nI i) = some (S.2 6 i) := ob_lI (σ := sgD) (j := 2) rfl rfl (by decide) (by decide) (by omega) hi
theorem sD_6 (hb : b + 10 < h.1) {i : Nat} {x : Int32} (hi : i < 2) : am_sI (ob sgD h b S) .boolean (b + 3) (nI i) x = some (ob sgD h b (S.1, va_up S.2 6 (upd (S.2 6) i x))) := ob_sI (σ := sgD) (j := 2) rfl rfl (by decide) (by decide) (by decide) (by omega) hi
theorem iD_6 (hb : b + 10 < h.1) : am_ii (ob sgD h b S) (b + 3) = some (.boolean, 2, S.2 6) := ob_ii (σ := sgD) (j := 2) rfl rfl (by decide) (by omega)
theorem uD_6 {f : Nat → Int32} : am_put (ob sgD h b S) (b + 3) (.inl (.boolean, 2, .inl f)) = ob sgD h b (S.1, va_up S.2 6 f) := ob_put (σ := sgD) (j := 2) rfl rfl (by decide) (by decide)
theorem gD_7 (hb : b + 10 < h.1) : am_gR (ob sgD h b S) b 5 7 = some (b + 4) := ob_gR (σ := sgD) (q := (3, .int, 200)) (by omega) (by decide) rfl
theorem lD_7 (hb : b + 10 < h.1) {i : Nat} (hi : i < 200) : am_lI (ob sgD h b S) .int (b + 4) (nI i) = some (S.2 7 i) := ob_lI (σ := sgD) (j := 3) rfl rfl (by decide) (by decide) (by omega) hi
theorem sD_7 (hb : b + 10 < h.1) {i : Nat} {x : Int32} (hi : i < 200) : am_sI (ob sgD h b S) .int (b + 4) (nI i) x = some (ob sgD h b (S.1, va_up S.2 7 (upd (S.2 7) i x))) := ob_sI (σ := sgD) (j := 3) rfl rfl (by decide) (by decide) (by decide) (by omega) hi
theorem iD_7 (hb : b + 10 < h.1) : am_ii (ob sgD h b S) (b + 4) = some (.int, 200, S.2 7) := ob_ii (σ := sgD) (j := 3) rfl rfl (by decide) (by omega)
theorem uD_7 {f : Nat → Int32} : am_put (ob sgD h b S) (b + 4) (.inl (.int, 200, .inl f)) = ob sgD h b (S.1, va_up S.2 7 f) := ob_put (σ := sgD) (j := 3) rfl rfl (by decide) (by decide)
theorem nD_7 (hb : b + 10 < h.1) : am_len (ob sgD h b S) (b + 4) = some (nI 200) := ob_len (σ := sgD) (j := 3) rfl rfl (by decide) (by omega)
theorem gD_8 (hb : b + 10 < h.1) : am_gI (ob sgD h b S) b 5 8 = some (S.1 8) := ob_gI (σ := sgD) (by omega) (by decide) rfl
theorem pD_8 (hb : b + 10 < h.1) {x : Int32} : am_pF (ob sgD h b S) b 5 8 (.int x) = some (ob sgD h b (upd S.1 8 x, S.2)) := ob_pF (σ := sgD) (by omega) (by decide) rfl
theorem gD_9 (hb : b + 10 < h.1) : am_gR (ob sgD h b S) b 5 9 = some (b + 5) := ob_gR (σ := sgD) (q := (4, .int, 3)) (by omega) (by decide) rfl
theorem lD_9 (hb : b + 10 < h.1) {i : Nat} (hi : i < 3) : am_lI (ob sgD h b S) .int (b + 5) (nI i) = some (S.2 9 i) := ob_lI (σ := sgD) (j := 4) rfl rfl (by decide) (by decide) (by omega) hi
theorem sD_9 (hb : b + 10 < h.1) {i : Nat} {x : Int32} (hi : i < 3) : am_sI (ob sgD h b S) .int (b + 5) (nI i) x = some (ob sgD h b (S.1, va_up S.2 9 (upd (S.2 9) i x))) := ob_sI (σ := sgD) (j := 4) rfl rfl (by decide) (by decide) (by decide) (by omega) hi
theorem iD_9 (hb : b + 10 < h.1) : am_ii (ob sgD h b S) (b + 5) = some (.int, 3, S.2 9) := ob_ii (σ := sgD) (j := 4) rfl rfl (by decide) (by omega)
theorem uD_9 {f : Nat → Int32} : am_put (ob sgD h b S) (b + 5) (.inl (.int, 3, .inl f)) = ob sgD h b (S.1, va_up S.2 9 f) := ob_put (σ := sgD) (j := 4) rfl rfl (by decide) (by decide)
theorem nD_9 (hb : b + 10 < h.1) : am_len (ob sgD h b S) (b + 5) = some (nI 3) := ob_len (σ := sgD) (j := 4) rfl rfl (by decide) (by omega)
theorem gD_10 (hb : b + 10 < h.1) : am_gR (ob sgD h b S) b 5 10 = some (b + 6) := ob_gR (σ := sgD) (q := (5, .int, 24)) (by omega) (by decide) rfl
theorem lD_10 (hb : b + 10 < h.1) {i : Nat} (hi : i < 24) : am_lI (ob sgD h b S) .int (b + 6) (nI i) = some (S.2 10 i) := ob_lI (σ := sgD) (j := 5) rfl rfl (by decide) (by decide) (by omega) hi
theorem sD_10 (hb : b + 10 < h.1) {i : Nat} {x : Int32} (hi : i < 24) : am_sI (ob sgD h b S) .int (b + 6) (nI i) x = some (ob sgD h b (S.1, va_up S.2 10 (upd (S.2 10) i x))) := ob_sI (σ := sgD) (j := 5) rfl rfl (by decide) (by decide) (by decide) (by omega) hi
theorem iD_10 (hb : b + 10 < h.1) : am_ii (ob sgD h b S) (b + 6) = some (.int, 24, S.2 10) := ob_ii (σ := sgD) (j := 5) rfl rfl (by decide) (by omega)
theorem uD_10 {f : Nat → Int32} : am_put (ob sgD h b S) (b + 6) (.inl (.int, 24, .inl f)) = ob sgD h b (S.1, va_up S.2 10 f) := ob_put (σ := sgD) (j := 5) rfl rfl (by decide) (by decide)
theorem nD_10 (hb : b + 10 < h.1) : am_len (ob sgD h b S) (b + 6) = some (nI 24) := ob_len (σ := sgD) (j := 5) rfl rfl (by decide) (by omega)
theorem gD_11 (hb : b + 10 < h.1) : am_gI (ob sgD h b S) b 5 11 = some (S.1 11) := ob_gI (σ := sgD) (by omega) (by decide) rfl
theorem pD_11 (hb : b + 10 < h.1) {x : Int32} : am_pF (ob sgD h b S) b 5 11 (.int x) = some (ob sgD h b (upd S.1 11 x, S.2)) := ob_pF (σ := sgD) (by omega) (by decide) rfl
theorem gD_12 (hb : b + 10 < h.1) : am_gI (ob sgD h b S) b 5 12 = some (S.1 12) := ob_gI (σ := sgD) (by omega) (by decide) rfl
theorem pD_12 (hb : b + 10 < h.1) {x : Int32} : am_pF (ob sgD h b S) b 5 12 (.int x) = some (ob sgD h b (upd S.1 12 x, S.2)) := ob_pF (σ := sgD) (by omega) (by decide) rfl
theorem gD_13 (hb : b + 10 < h.1) : am_gI (ob sgD h b S) b 5 13 = some (S.1 13) := ob_gI (σ := sgD) (by omega) (by decide) rfl
theorem pD_13 (hb : b + 10 < h.1) {x : Int32} : am_pF (ob sgD h b S) b 5 13 (.int x) = some (ob sgD h b (upd S.1 13 x, S.2)) := ob_pF (σ := sgD) (by omega) (by decide) rfl
theorem gD_14 (hb : b + 10 < h.1) : am_gI (ob sgD h b S) b 5 14 = some (S.1 14) := ob_gI (σ := sgD) (by omega) (by decide) rfl
theorem pD_14 (hb : b + 10 < h.1) {x : Int32} : am_pF (ob sgD h b S) b 5 14 (.int x) = some (ob sgD h b (upd S.1 14 x, S.2)) := ob_pF (σ := sgD) (by omega) (by decide) rfl
theorem gD_15 (hb : b + 10 < h.1) : am_gI (ob sgD h b S) b 5 15 = some (S.1 15) := ob_gI (σ := sgD) (by omega) (by decide) rfl
theorem pD_15 (hb : b + 10 < h.1) {x : Int32} : am_pF (ob sgD h b S) b 5 15 (.int x) = some (ob sgD h b (upd S.1 15 x, S.2)) := ob_pF (σ := sgD) (by omega) (by decide) rfl
theorem gD_16 (hb : b + 10 < h.1) : am_gR (ob sgD h b S) b 5 16 = some (b + 7) := ob_gR (σ := sgD) (q := (6, .int, 4)) (by omega) (by decide) rfl
theorem lD_16 (hb : b + 10 < h.1) {i : Nat} (hi : i < 4) : am_lI (ob sgD h b S) .int (b + 7) (nI i) = some (S.2 16 i) := ob_lI (σ := sgD) (j := 6) rfl rfl (by decide) (by decide) (by omega) hi
theorem sD_16 (hb : b + 10 < h.1) {i : Nat} {x : Int32} (hi : i < 4) : am_sI (ob sgD h b S) .int (b + 7) (nI i) x = some (ob sgD h b (S.1, va_up S.2 16 (upd (S.2 16) i x))) := ob_sI (σ := sgD) (j := 6) rfl rfl (by decide) (by decide) (by decide) (by omega) hi
theorem iD_16 (hb : b + 10 < h.1) : am_ii (ob sgD h b S) (b + 7) = some (.int, 4, S.2 16) := ob_ii (σ := sgD) (j := 6) rfl rfl (by decide) (by omega)
theorem uD_16 {f : Nat → Int32} : am_put (ob sgD h b S) (b + 7) (.inl (.int, 4, .inl f)) = ob sgD h b (S.1, va_up S.2 16 f) := ob_put (σ := sgD) (j := 6) rfl rfl (by decide) (by decide)
theorem nD_16 (hb : b + 10 < h.1) : am_len (ob sgD h b S) (b + 7) = some (nI 4) := ob_len (σ := sgD) (j := 6) rfl rfl (by decide) (by omega)
theorem gD_17 (hb : b + 10 < h.1) : am_gR (ob sgD h b S) b 5 17 = some (b + 8) := ob_gR (σ := sgD) (q := (7, .int, 20)) (by omega) (by decide) rfl
theorem lD_17 (hb : b + 10 < h.1) {i : Nat} (hi : i < 20) : am_lI (ob sgD h b S) .int (b + 8) (nI i) = some (S.2 17 i) := ob_lI (σ := sgD) (j := 7) rfl rfl (by decide) (by decide) (by omega) hi
theorem sD_17 (hb : b + 10 < h.1) {i : Nat} {x : Int32} (hi : i < 20) : am_sI (ob sgD h b S) .int (b + 8) (nI i) x = some (ob sgD h b (S.1, va_up S.2 17 (upd (S.2 17) i x))) := ob_sI (σ := sgD) (j := 7) rfl rfl (by decide) (by decide) (by decide) (by omega) hi
theorem iD_17 (hb : b + 10 < h.1) : am_ii (ob sgD h b S) (b + 8) = some (.int, 20, S.2 17) := ob_ii (σ := sgD) (j := 7) rfl rfl (by decide) (by omega)
theorem uD_17 {f : Nat → Int32} : am_put (ob sgD h b S) (b + 8) (.inl (.int, 20, .inl f)) = ob sgD h b (S.1, va_up S.2 17 f) := ob_put (σ := sgD) (j := 7) rfl rfl (by decide) (by decide)
theorem nD_17 (hb : b + 10 < h.1) : am_len (ob sgD h b S) (b + 8) = some (nI 20) := ob_len (σ := sgD) (j := 7) rfl rfl (by decide) (by omega)
theorem gD_18 (hb : b + 10 < h.1) : am_gR (ob sgD h b S) b 5 18 = some (b + 9) := ob_gR (σ := sgD) (q := (8, .int, 8)) (by omega) (by decide) rfl
theorem lD_18 (hb : b + 10 < h.1) {i : Nat} (hi : i < 8) : am_lI (ob sgD h b S) .int (b + 9) (nI i) = some (S.2 18 i) := ob_lI (σ := sgD) (j := 8) rfl rfl (by decide) (by decide) (by omega) hi
theorem sD_18 (hb : b + 10 < h.1) {i : Nat} {x : Int32} (hi : i < 8) : am_sI (ob sgD h b S) .int (b + 9) (nI i) x = some (ob sgD h b (S.1, va_up S.2 18 (upd (S.2 18) i x))) := ob_sI (σ := sgD) (j := 8) rfl rfl (by decide) (by decide) (by decide) (by omega) hi
theorem iD_18 (hb : b + 10 < h.1) : am_ii (ob sgD h b S) (b + 9) = some (.int, 8, S.2 18) := ob_ii (σ := sgD) (j := 8) rfl rfl (by decide) (by omega)
theorem uD_18 {f : Nat → Int32} : am_put (ob sgD h b S) (b + 9) (.inl (.int, 8, .inl f)) = ob sgD h b (S.1, va_up S.2 18 f) := ob_put (σ := sgD) (j := 8) rfl rfl (by decide) (by decide)
theorem nD_18 (hb : b + 10 < h.1) : am_len (ob sgD h b S) (b + 9) = some (nI 8) := ob_len (σ := sgD) (j := 8) rfl rfl (by decide) (by omega)
theorem gD_19 (hb : b + 10 < h.1) : am_gR (ob sgD h b S) b 5 19 = some (b + 10) := ob_gR (σ := sgD) (q := (9, .int, 8)) (by omega) (by decide) rfl
theorem lD_19 (hb : b + 10 < h.1) {i : Nat} (hi : i < 8) : am_lI (ob sgD h b S) .int (b + 10) (nI i) = some (S.2 19 i) := ob_lI (σ := sgD) (j := 9) rfl rfl (by decide) (by decide) (by omega) hi
theorem sD_19 (hb : b + 10 < h.1) {i : Nat} {x : Int32} (hi : i < 8) : am_sI (ob sgD h b S) .int (b + 10) (nI i) x = some (ob sgD h b (S.1, va_up S.2 19 (upd (S.2 19) i x))) := ob_sI (σ := sgD) (j := 9) rfl rfl (by decide) (by decide) (by decide) (by omega) hi
theorem iD_19 (hb : b + 10 < h.1) : am_ii (ob sgD h b S) (b + 10) = some (.int, 8, S.2 19) := ob_ii (σ := sgD) (j := 9) rfl rfl (by decide) (by omega)
theorem uD_19 {f : Nat → Int32} : am_put (ob sgD h b S) (b + 10) (.inl (.int, 8, .inl f)) = ob sgD h b (S.1, va_up S.2 19 f) := ob_put (σ := sgD) (j := 9) rfl rfl (by decide) (by decide)
theorem nD_19 (hb : b + 10 < h.1) : am_len (ob sgD h b S) (b + 10) = some (nI 8) := ob_len (σ := sgD) (j := 9) rfl rfl (by decide) (by omega)
end OD
