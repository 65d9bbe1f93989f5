/-! THE WHOLE HEAP: seventeen objects with their arrays (0 now, 1 trial, 2..9 the ring, 10 11 the keeps, 12 the text, 13..15 the tallies, 16 the reference), and what holds them together -/
def bo (j : Nat) : Nat := if j < 2 then 1 + 7 * j else if j < 10 then 19 + 7 * (j - 2) else if j < 12 then 78 + 7 * (j - 10) else if j = 12 then 15 else if j < 16 then 92 + 2 * (j - 13) else 98
def so (j : Nat) : sg_T := if j < 12 then sgM else if j = 12 then sgX else if j < 16 then sgT else sgD
def bl (j : Nat) : Nat := if j < 12 then 6 else if j < 16 then 1 else 10
theorem so_bl (j : Nat) : (so j).2.2.2.1 = bl j := by
  unfold so bl
  by_cases h1 : j < 12
  · rw [if_pos h1, if_pos h1]; rfl
  · rw [if_neg h1, if_neg h1]
    by_cases h2 : j = 12
    · rw [if_pos h2, if_pos (by omega)]; rfl
    · rw [if_neg h2]
      by_cases h3 : j < 16
      · rw [if_pos h3, if_pos h3]; rfl
      · rw [if_neg h3, if_neg h3]; rfl
theorem bo_ap : ∀ i, i < 17 → ∀ j, j < 17 → ¬ i = j → bo i + bl i < bo j ∨ bo j + bl j < bo i := by decide +kernel
abbrev st_P : Type := Int32 × Int32 × (Nat → Int32)
def rA (n : Nat) (f : Nat → Nat) : vp_A := (n, .inr (.inr (.inr (.inr (fun i => if i < n then some (f i) else none)))))
def hb_c (P : st_P) (a : Nat) : am_C :=
  if a = 0 then .inr (4, [.ref 1, .ref 8, .ref 15, .ref 17, .ref 75, .ref 76, .ref 77])
  else if a = 17 then .inr (1, [.ref 18, .int P.1, .int P.2.1])
  else if a = 18 then .inl (.object (am_cn 0), rA 8 (fun i => 19 + 7 * i))
  else if a = 75 then .inl (.object (am_cn 0), rA 2 (fun i => 78 + 7 * i))
  else if a = 76 then .inl (.boolean, 2, .inl P.2.2)
  else if a = 77 then .inl (.object (am_cn 2), rA 3 (fun i => 92 + 2 * i))
  else .inr (0, [])
def HB (P : st_P) : am_H := (109, 1605, hb_c P)
def HO (S : Nat → sg_S) : Nat → am_H → am_H
  | 0, h => h
  | k + 1, h => ob (so k) (HO S k h) (bo k) (S k)
def HP (P : st_P) (S : Nat → sg_S) : am_H := HO S 17 (HB P)
theorem HO_1 (S : Nat → sg_S) (h : am_H) : ∀ k, (HO S k h).1 = h.1 := by
  intro k
  induction k with
  | zero => rfl
  | succ k ih => exact ih
theorem HO_2 (S : Nat → sg_S) (h : am_H) : ∀ k, (HO S k h).2.1 = h.2.1 := by
  intro k
  induction k with
  | zero => rfl
  | succ k ih => exact ih
theorem HO_cong {S T : Nat → sg_S} (h : am_H) : ∀ k, (∀ i, i < k → S i = T i) → HO S k h = HO T k h := by
  intro k
  induction k with
  | zero => intro _; rfl
  | succ k ih =>
    intro e
    show ob (so k) (HO S k h) (bo k) (S k) = ob (so k) (HO T k h) (bo k) (T k)
    rw [ih (fun i hi => e i (by omega)), e k (by omega)]
theorem HO_foc (S : Nat → sg_S) (h : am_H) (N : sg_S) : ∀ k, k ≤ 17 → ∀ j, j < k → ob (so j) (HO S k h) (bo j) N = HO (va_up S j N) k h := by
  intro k
  induction k with
  | zero => intro _ j hj; omega
  | succ k ih =>
    intro hk j hj
    show ob (so j) (ob (so k) (HO S k h) (bo k) (S k)) (bo j) N = ob (so k) (HO (va_up S j N) k h) (bo k) (va_up S j N k)
    by_cases e : j = k
    · subst e
      rw [ob_ob, vu_at, HO_cong (S := va_up S j N) (T := S) h j (fun i hi => vu_ne S N (by omega))]
    · have ap := bo_ap j (by omega) k (by omega) e
      rw [ob_swap (by rw [so_bl, so_bl]; exact ap), ih (by omega) j (by omega), vu_ne S N (fun z => e z.symm)]
theorem HO_look (S : Nat → sg_S) (h : am_H) {a : Nat} : ∀ k, (∀ j, j < k → a < bo j ∨ bo j + bl j < a) → am_look (HO S k h) a = am_look h a := by
  intro k
  induction k with
  | zero => intro _; rfl
  | succ k ih =>
    intro ap
    show am_look (ob (so k) (HO S k h) (bo k) (S k)) a = _
    rw [ob_looko (by rw [so_bl]; exact ap k (by omega)), ih (fun j hj => ap j (by omega))]
theorem ob_putO {σ : sg_T} {h : am_H} {b a : Nat} {S : sg_S} {c : am_C} (ha : a < b ∨ b + σ.2.2.2.1 < a) : am_put (ob σ h b S) a c = ob σ (am_put h a c) b S := by
  refine Prod.ext rfl (Prod.ext rfl ?_)
  funext x
  show va_up (ob σ h b S).2.2 a c x = (if x = b then .inr (σ.1, ob_fs σ b S) else if b < x ∧ x ≤ b + σ.2.2.2.1 then ob_arr σ S (x - b - 1) else va_up h.2.2 a c x)
  unfold va_up
  by_cases e : x = a
  · subst e
    rw [if_pos rfl, if_neg (by omega), if_neg (by omega), if_pos rfl]
  · rw [if_neg e, if_neg e]
    rfl
theorem HO_put (S : Nat → sg_S) (h : am_H) {a : Nat} {c : am_C} : ∀ k, (∀ j, j < k → a < bo j ∨ bo j + bl j < a) → am_put (HO S k h) a c = HO S k (am_put h a c) := by
  intro k
  induction k with
  | zero => intro _; rfl
  | succ k ih =>
    intro ap
    show am_put (ob (so k) (HO S k h) (bo k) (S k)) a c = ob (so k) (HO S k (am_put h a c)) (bo k) (S k)
    rw [ob_putO (by rw [so_bl]; exact ap k (by omega)), ih (fun j hj => ap j (by omega))]
theorem ap_0 : ∀ j, j < 17 → 0 < bo j ∨ bo j + bl j < 0 := by decide +kernel
theorem ap_17 : ∀ j, j < 17 → 17 < bo j ∨ bo j + bl j < 17 := by decide +kernel
theorem ap_18 : ∀ j, j < 17 → 18 < bo j ∨ bo j + bl j < 18 := by decide +kernel
theorem ap_75 : ∀ j, j < 17 → 75 < bo j ∨ bo j + bl j < 75 := by decide +kernel
theorem ap_76 : ∀ j, j < 17 → 76 < bo j ∨ bo j + bl j < 76 := by decide +kernel
theorem ap_77 : ∀ j, j < 17 → 77 < bo j ∨ bo j + bl j < 77 := by decide +kernel
section ST
variable {L : Nat} {xs : Nat → Int32} {P : st_P} {S : Nat → sg_S} {N : sg_S} {kk : Nat} {args : List Value} {r : Option Int32}
theorem HP_1 : (HP P S).1 = 109 := HO_1 S (HB P) 17
theorem HP_2 : (HP P S).2.1 = 1605 := HO_2 S (HB P) 17
theorem HP_12 {Q : st_P} {T : Nat → sg_S} : (HP Q T).1 = (HP P S).1 := by rw [HP_1, HP_1]
theorem HP_22 {Q : st_P} {T : Nat → sg_S} : (HP Q T).2.1 = (HP P S).2.1 := by rw [HP_2, HP_2]
theorem lk_0 : am_look (HP P S) 0 = some (.inr (4, [.ref 1, .ref 8, .ref 15, .ref 17, .ref 75, .ref 76, .ref 77])) := by
  unfold HP; rw [HO_look S _ 17 ap_0]; rfl
theorem lk_17 : am_look (HP P S) 17 = some (.inr (1, [.ref 18, .int P.1, .int P.2.1])) := by
  unfold HP; rw [HO_look S _ 17 ap_17]; rfl
theorem lk_18 : am_look (HP P S) 18 = some (.inl (.object (am_cn 0), rA 8 (fun i => 19 + 7 * i))) := by
  unfold HP; rw [HO_look S _ 17 ap_18]; rfl
theorem lk_75 : am_look (HP P S) 75 = some (.inl (.object (am_cn 0), rA 2 (fun i => 78 + 7 * i))) := by
  unfold HP; rw [HO_look S _ 17 ap_75]; rfl
theorem lk_76 : am_look (HP P S) 76 = some (.inl (.boolean, 2, .inl P.2.2)) := by
  unfold HP; rw [HO_look S _ 17 ap_76]; rfl
theorem lk_77 : am_look (HP P S) 77 = some (.inl (.object (am_cn 2), rA 3 (fun i => 92 + 2 * i))) := by
  unfold HP; rw [HO_look S _ 17 ap_77]; rfl
theorem k_0 : am_cls (HP P S) 0 = some 4 := by unfold am_cls; rw [lk_0]
theorem k_17 : am_cls (HP P S) 17 = some 1 := by unfold am_cls; rw [lk_17]
theorem f0_0 : am_gR (HP P S) 0 4 0 = some 1 := by unfold am_gR am_fld; rw [lk_0]; rfl
theorem f0_1 : am_gR (HP P S) 0 4 1 = some 8 := by unfold am_gR am_fld; rw [lk_0]; rfl
theorem f0_2 : am_gR (HP P S) 0 4 2 = some 15 := by unfold am_gR am_fld; rw [lk_0]; rfl
theorem f0_3 : am_gR (HP P S) 0 4 3 = some 17 := by unfold am_gR am_fld; rw [lk_0]; rfl
theorem f0_4 : am_gR (HP P S) 0 4 4 = some 75 := by unfold am_gR am_fld; rw [lk_0]; rfl
theorem f0_5 : am_gR (HP P S) 0 4 5 = some 76 := by unfold am_gR am_fld; rw [lk_0]; rfl
theorem f0_6 : am_gR (HP P S) 0 4 6 = some 77 := by unfold am_gR am_fld; rw [lk_0]; rfl
theorem f17_0 : am_gR (HP P S) 17 1 0 = some 18 := by unfold am_gR am_fld; rw [lk_17]; rfl
theorem f17_1 : am_gI (HP P S) 17 1 1 = some P.1 := by unfold am_gI am_fld; rw [lk_17]; rfl
theorem f17_2 : am_gI (HP P S) 17 1 2 = some P.2.1 := by unfold am_gI am_fld; rw [lk_17]; rfl
theorem hb_put {P Q : st_P} {a : Nat} {c : am_C} (e : hb_c Q a = c) (e2 : ∀ x, ¬ x = a → hb_c Q x = hb_c P x) : am_put (HB P) a c = HB Q := by
  refine Prod.ext rfl (Prod.ext rfl ?_)
  funext x
  show va_up (hb_c P) a c x = hb_c Q x
  unfold va_up
  by_cases q : x = a
  · subst q; rw [if_pos rfl, e]
  · rw [if_neg q, e2 x q]
theorem p17_1 {x : Int32} : am_pF (HP P S) 17 1 1 (.int x) = some (HP (x, P.2) S) := by
  unfold am_pF
  rw [lk_17]
  show some (am_put (HP P S) 17 (.inr (1, [.ref 18, .int x, .int P.2.1]))) = _
  unfold HP
  rw [HO_put S _ 17 ap_17]
  refine congrArg (fun z => some (HO S 17 z)) (hb_put (Q := (x, P.2)) rfl ?_)
  intro a ha
  unfold hb_c
  simp only [if_neg ha]
theorem p17_2 {x : Int32} : am_pF (HP P S) 17 1 2 (.int x) = some (HP (P.1, x, P.2.2) S) := by
  unfold am_pF
  rw [lk_17]
  show some (am_put (HP P S) 17 (.inr (1, [.ref 18, .int P.1, .int x]))) = _
  unfold HP
  rw [HO_put S _ 17 ap_17]
  refine congrArg (fun z => some (HO S 17 z)) (hb_put (Q := (P.1, x, P.2.2)) rfl ?_)
  intro a ha
  unfold hb_c
  simp only [if_neg ha]
theorem a18 {i : Nat} (hi : i < 8) : am_lA (HP P S) (am_cn 0) 18 (nI i) = some (19 + 7 * i) := by
  unfold am_lA am_rr
  rw [lk_18]
  show (if FieldType.object (am_cn 0) = FieldType.object (am_cn 0) ∧ ¬ (nI i < 0 ∨ 8 ≤ (nI i).toNatClampNeg) then (if (nI i).toNatClampNeg < 8 then some (19 + 7 * (nI i).toNatClampNeg) else none) else none) = _
  rw [if_pos ⟨rfl, nI_in hi (by omega)⟩, nI_clamp (by omega), if_pos hi]
theorem a75 {i : Nat} (hi : i < 2) : am_lA (HP P S) (am_cn 0) 75 (nI i) = some (78 + 7 * i) := by
  unfold am_lA am_rr
  rw [lk_75]
  show (if FieldType.object (am_cn 0) = FieldType.object (am_cn 0) ∧ ¬ (nI i < 0 ∨ 2 ≤ (nI i).toNatClampNeg) then (if (nI i).toNatClampNeg < 2 then some (78 + 7 * (nI i).toNatClampNeg) else none) else none) = _
  rw [if_pos ⟨rfl, nI_in hi (by omega)⟩, nI_clamp (by omega), if_pos hi]
theorem a77 {i : Nat} (hi : i < 3) : am_lA (HP P S) (am_cn 2) 77 (nI i) = some (92 + 2 * i) := by
  unfold am_lA am_rr
  rw [lk_77]
  show (if FieldType.object (am_cn 2) = FieldType.object (am_cn 2) ∧ ¬ (nI i < 0 ∨ 3 ≤ (nI i).toNatClampNeg) then (if (nI i).toNatClampNeg < 3 then some (92 + 2 * (nI i).toNatClampNeg) else none) else none) = _
  rw [if_pos ⟨rfl, nI_in hi (by omega)⟩, nI_clamp (by omega), if_pos hi]
theorem l76 {i : Nat} (hi : i < 2) : am_lI (HP P S) .boolean 76 (nI i) = some (P.2.2 i) := by
  unfold am_lI am_ii
  rw [lk_76]
  show (if FieldType.boolean = FieldType.boolean ∧ ¬ (nI i < 0 ∨ 2 ≤ (nI i).toNatClampNeg) then some (P.2.2 (nI i).toNatClampNeg) else none) = _
  rw [if_pos ⟨rfl, nI_in hi (by omega)⟩, nI_clamp (by omega)]
theorem s76 {i : Nat} {x : Int32} (hi : i < 2) : am_sI (HP P S) .boolean 76 (nI i) x = some (HP (P.1, P.2.1, upd P.2.2 i x) S) := by
  unfold am_sI am_ii
  rw [lk_76]
  show (if FieldType.boolean = FieldType.boolean ∧ ¬ (nI i < 0 ∨ 2 ≤ (nI i).toNatClampNeg) then some (am_put (HP P S) 76 (.inl (.boolean, 2, .inl (upd P.2.2 (nI i).toNatClampNeg x)))) else none) = _
  rw [if_pos ⟨rfl, nI_in hi (by omega)⟩, nI_clamp (by omega)]
  unfold HP
  rw [HO_put S _ 17 ap_76]
  refine congrArg (fun z => some (HO S 17 z)) (hb_put (Q := (P.1, P.2.1, upd P.2.2 i x)) rfl ?_)
  intro a ha
  unfold hb_c
  simp only [if_neg ha]
-- one object of it
theorem foc {j : Nat} (hj : j < 17) : ob (so j) (HP P S) (bo j) N = HP P (va_up S j N) := HO_foc S (HB P) N 17 (by omega) j hj
theorem foN : ob sgM (HP P S) 1 N = HP P (va_up S 0 N) := foc (j := 0) (by omega)
theorem foT : ob sgM (HP P S) 8 N = HP P (va_up S 1 N) := foc (j := 1) (by omega)
theorem foR {i : Nat} (hi : i < 8) : ob sgM (HP P S) (19 + 7 * i) N = HP P (va_up S (2 + i) N) := by
  have := foc (P := P) (S := S) (N := N) (j := 2 + i) (by omega)
  rwa [show so (2 + i) = sgM by unfold so; rw [if_pos (by omega)], show bo (2 + i) = 19 + 7 * i by unfold bo; rw [if_neg (by omega), if_pos (by omega)]; omega] at this
theorem foK {i : Nat} (hi : i < 2) : ob sgM (HP P S) (78 + 7 * i) N = HP P (va_up S (10 + i) N) := by
  have := foc (P := P) (S := S) (N := N) (j := 10 + i) (by omega)
  rwa [show so (10 + i) = sgM by unfold so; rw [if_pos (by omega)], show bo (10 + i) = 78 + 7 * i by unfold bo; rw [if_neg (by omega), if_neg (by omega), if_pos (by omega)]; omega] at this
theorem foX : ob sgX (HP P S) 15 N = HP P (va_up S 12 N) := foc (j := 12) (by omega)
theorem foY {t : Nat} (ht : t < 3) : ob sgT (HP P S) (92 + 2 * t) N = HP P (va_up S (13 + t) N) := by
  have := foc (P := P) (S := S) (N := N) (j := 13 + t) (by omega)
  rwa [show so (13 + t) = sgT by unfold so; rw [if_neg (by omega), if_neg (by omega), if_pos (by omega)], show bo (13 + t) = 92 + 2 * t by unfold bo; rw [if_neg (by omega), if_neg (by omega), if_neg (by omega), if_neg (by omega), if_pos (by omega)]; omega] at this
theorem foD : ob sgD (HP P S) 98 N = HP P (va_up S 16 N) := foc (j := 16) (by omega)
theorem fiN : ob sgM (HP P S) 1 (S 0) = HP P S := by rw [foN, vu_id]
theorem fiT : ob sgM (HP P S) 8 (S 1) = HP P S := by rw [foT, vu_id]
theorem fiR {i : Nat} (hi : i < 8) : ob sgM (HP P S) (19 + 7 * i) (S (2 + i)) = HP P S := by rw [foR hi, vu_id]
theorem fiK {i : Nat} (hi : i < 2) : ob sgM (HP P S) (78 + 7 * i) (S (10 + i)) = HP P S := by rw [foK hi, vu_id]
theorem fiX : ob sgX (HP P S) 15 (S 12) = HP P S := by rw [foX, vu_id]
theorem fiY {t : Nat} (ht : t < 3) : ob sgT (HP P S) (92 + 2 * t) (S (13 + t)) = HP P S := by rw [foY ht, vu_id]
theorem fiD : ob sgD (HP P S) 98 (S 16) = HP P S := by rw [foD, vu_id]
-- a call on one of them
theorem onN (H : am_ok L xs kk args (ob sgM (HP P S) 1 (S 0)) r (ob sgM (HP P S) 1 N)) : am_ok L xs kk args (HP P S) r (HP P (va_up S 0 N)) := by rwa [fiN, foN] at H
theorem onN0 (H : am_ok L xs kk args (ob sgM (HP P S) 1 (S 0)) r (ob sgM (HP P S) 1 (S 0))) : am_ok L xs kk args (HP P S) r (HP P S) := by rwa [fiN] at H
theorem onT (H : am_ok L xs kk args (ob sgM (HP P S) 8 (S 1)) r (ob sgM (HP P S) 8 N)) : am_ok L xs kk args (HP P S) r (HP P (va_up S 1 N)) := by rwa [fiT, foT] at H
theorem onT0 (H : am_ok L xs kk args (ob sgM (HP P S) 8 (S 1)) r (ob sgM (HP P S) 8 (S 1))) : am_ok L xs kk args (HP P S) r (HP P S) := by rwa [fiT] at H
theorem onX (H : am_ok L xs kk args (ob sgX (HP P S) 15 (S 12)) r (ob sgX (HP P S) 15 N)) : am_ok L xs kk args (HP P S) r (HP P (va_up S 12 N)) := by rwa [fiX, foX] at H
theorem onX0 (H : am_ok L xs kk args (ob sgX (HP P S) 15 (S 12)) r (ob sgX (HP P S) 15 (S 12))) : am_ok L xs kk args (HP P S) r (HP P S) := by rwa [fiX] at H
theorem onY {t : Nat} (ht : t < 3) (H : am_ok L xs kk args (ob sgT (HP P S) (92 + 2 * t) (S (13 + t))) r (ob sgT (HP P S) (92 + 2 * t) N)) : am_ok L xs kk args (HP P S) r (HP P (va_up S (13 + t) N)) := by rwa [fiY ht, foY ht] at H
theorem onY0 {t : Nat} (ht : t < 3) (H : am_ok L xs kk args (ob sgT (HP P S) (92 + 2 * t) (S (13 + t))) r (ob sgT (HP P S) (92 + 2 * t) (S (13 + t)))) : am_ok L xs kk args (HP P S) r (HP P S) := by rwa [fiY ht] at H
theorem onD (H : am_ok L xs kk args (ob sgD (HP P S) 98 (S 16)) r (ob sgD (HP P S) 98 N)) : am_ok L xs kk args (HP P S) r (HP P (va_up S 16 N)) := by rwa [fiD, foD] at H
theorem onD0 (H : am_ok L xs kk args (ob sgD (HP P S) 98 (S 16)) r (ob sgD (HP P S) 98 (S 16))) : am_ok L xs kk args (HP P S) r (HP P S) := by rwa [fiD] at H
theorem bN : 1 + 6 < (HP P S).1 := by rw [HP_1]; omega
theorem bT : 8 + 6 < (HP P S).1 := by rw [HP_1]; omega
theorem bR {i : Nat} (hi : i < 8) : 19 + 7 * i + 6 < (HP P S).1 := by rw [HP_1]; omega
theorem bK {i : Nat} (hi : i < 2) : 78 + 7 * i + 6 < (HP P S).1 := by rw [HP_1]; omega
theorem bX : 15 + 1 < (HP P S).1 := by rw [HP_1]; omega
theorem bY {t : Nat} (ht : t < 3) : 92 + 2 * t + 1 < (HP P S).1 := by rw [HP_1]; omega
theorem bD : 98 + 10 < (HP P S).1 := by rw [HP_1]; omega
theorem gN {k : Nat} (hk : k < 5) : am_gI (HP P S) 1 0 k = some ((S 0).1 k) := by
  conv => lhs; rw [← fiN (P := P) (S := S)]
  exact ob_gI (σ := sgM) (by have := bN (P := P) (S := S); omega) (by show k < 11; omega) (if_pos hk)
theorem gY_1 {t : Nat} (ht : t < 3) : am_gI (HP P S) (92 + 2 * t) 2 1 = some ((S (13 + t)).1 1) := by
  conv => lhs; rw [← fiY (P := P) (S := S) ht]
  exact gT_1 (bY ht)
theorem gY_2 {t : Nat} (ht : t < 3) : am_gI (HP P S) (92 + 2 * t) 2 2 = some ((S (13 + t)).1 2) := by
  conv => lhs; rw [← fiY (P := P) (S := S) ht]
  exact gT_2 (bY ht)
theorem cpy (b c : Nat) {jb jc : Nat} (eb : ∀ S N, ob sgM (HP P S) b N = HP P (va_up S jb N)) (ec : ∀ S N, ob sgM (HP P S) c N = HP P (va_up S jc N)) (hb : b + 6 < 109) (hc : c + 6 < 109) (hd : b + 6 < c ∨ c + 6 < b) (h4 : (S jc).1 4 = 0 ∨ (S jc).1 4 = 1) : am_ok L xs m_X0_copyFrom [.ref b, .ref c] (HP P S) none (HP P (va_up S jb (cpyM (S jb) (S jc)))) := by
  have := ok_copyFrom (L := L) (xs := xs) (h := HP P S) (b := b) (c := c) (M := S jb) (N := S jc) (by rw [HP_1]; exact hb) (by rw [HP_1]; exact hc) hd h4
  rwa [ec, vu_id, eb, eb, vu_id] at this
end ST
