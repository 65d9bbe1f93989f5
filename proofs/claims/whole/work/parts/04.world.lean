/-! THE REAL WORLD OF AN ABSTRACT HEAP: logical cell k lies at base + k; what a value, a cell, a heap is in the real machine -/
/-- what is fixed for a run: class numbers and slots, array classes, where our cells begin, where special cells lie, a value of which nothing is known -/
abbrev am_G : Type := va_G × (FieldType → ClassId) × Nat × (Nat → Nat) × Value
def am_al (g : am_G) (k : Nat) : Nat := if k < 1000000 then g.2.2.1 + k else g.2.2.2.1 (k - 1000000)
def am_v (g : am_G) (v : Value) : Value := match v with
  | .ref k => .ref (am_al g k)
  | .retAddr _ => g.2.2.2.2
  | v => v
theorem am_v_int (g : am_G) (x : Int32) : am_v g (.int x) = .int x := rfl
theorem am_v_long (g : am_G) (x : Int64) : am_v g (.long x) = .long x := rfl
theorem am_v_ref (g : am_G) (k : Nat) : am_v g (.ref k) = .ref (am_al g k) := rfl
theorem am_v_null (g : am_G) : am_v g .null = .null := rfl
theorem am_al_lt {g : am_G} {k : Nat} (h : k < 1000000) : am_al g k = g.2.2.1 + k := if_pos h
def am_av (g : am_G) (a : vp_A) : vp_A := match a with
  | (n, .inr (.inr (.inr (.inr f)))) => (n, .inr (.inr (.inr (.inr (fun j => (f j).map (am_al g))))))
  | a => a
def am_rc (g : am_G) (c : am_C) : va_E := match c with
  | .inl (ty, a) => .inl (g.2.1 ty, am_av g a)
  | .inr (ci, fs) => .inr (ci, fs.map (am_v g))
def am_ws (g : am_G) (h : am_H) : va_W := (List.range h.1).map (fun k => (g.2.2.1 + k, am_rc g (h.2.2 k)))
theorem am_ws_len (g : am_G) (h : am_H) : (am_ws g h).length = h.1 := by simp [am_ws]
theorem am_ws_at {g : am_G} {h : am_H} {k : Nat} (hk : k < h.1) : (am_ws g h)[k]? = some (g.2.2.1 + k, am_rc g (h.2.2 k)) := by simp [am_ws, hk]
theorem am_ws_inv {g : am_G} {h : am_H} {k : Nat} {q : Nat × va_E} (e : (am_ws g h)[k]? = some q) : k < h.1 ∧ q = (g.2.2.1 + k, am_rc g (h.2.2 k)) := by
  have hk : k < h.1 := by
    have := (List.getElem?_eq_some_iff.mp e).1
    rwa [am_ws_len] at this
  rw [am_ws_at hk] at e
  exact ⟨hk, (Option.some.inj e).symm⟩
theorem am_ws_set {g : am_G} {h : am_H} {k : Nat} {c : am_C} (hk : k < h.1) : (am_ws g h).set k (g.2.2.1 + k, am_rc g c) = am_ws g (am_put h k c) := by
  apply List.ext_getElem?
  intro j
  by_cases hj : j < h.1
  · rw [am_ws_at (h := am_put h k c) (by exact hj), List.getElem?_set]
    by_cases e : k = j
    · subst e
      rw [if_pos rfl, if_pos (by rw [am_ws_len]; exact hk)]
      simp [am_put, va_up]
    · rw [if_neg e, am_ws_at hj]
      have e2 : ¬ j = k := fun z => e z.symm
      simp [am_put, va_up, e2]
  · rw [List.getElem?_eq_none (by rw [List.length_set, am_ws_len]; omega), List.getElem?_eq_none (by rw [am_ws_len]; show h.1 ≤ j; omega)]
theorem am_ws_push {g : am_G} {h : am_H} {n : Nat} {c : am_C} : am_ws g h ++ [(g.2.2.1 + h.1, am_rc g c)] = am_ws g (am_push h n c) := by
  apply List.ext_getElem?
  intro j
  rcases Nat.lt_trichotomy j h.1 with hj | hj | hj
  · rw [List.getElem?_append_left (by rw [am_ws_len]; exact hj), am_ws_at hj, am_ws_at (h := am_push h n c) (by show j < h.1 + 1; omega)]
    have e : ¬ j = h.1 := by omega
    simp [am_push, va_up, e]
  · subst hj
    rw [List.getElem?_append_right (by rw [am_ws_len]; omega), am_ws_at (h := am_push h n c) (by show h.1 < h.1 + 1; omega), am_ws_len]
    simp [am_push, va_up]
  · rw [List.getElem?_eq_none (by rw [List.length_append, am_ws_len]; simp; omega), List.getElem?_eq_none (by rw [am_ws_len]; show h.1 + 1 ≤ j; omega)]
abbrev am_A (g : am_G) : Nat → Prop := fun q => g.2.2.1 ≤ q
theorem am_D (g : am_G) (h : am_H) : va_D (am_A g) (am_ws g h) := by
  refine ⟨fun i j p q hi hj e => ?_, fun k q hk => ?_⟩
  · obtain ⟨-, rfl⟩ := am_ws_inv hi
    obtain ⟨-, rfl⟩ := am_ws_inv hj
    simp only at e
    omega
  · obtain ⟨-, rfl⟩ := am_ws_inv hk
    show g.2.2.1 ≤ g.2.2.1 + k
    omega
/-- the real heap H is that of the abstract heap h -/
def am_W (g : am_G) (h : am_H) (H : Heap) : Prop := (H.size = g.2.2.1 + h.1 ∧ h.1 ≤ 1000000) ∧ va_P g.1 vwCl (am_ws g h) H
theorem am_look_lt {h : am_H} {k : Nat} {c : am_C} (e : am_look h k = some c) : k < h.1 ∧ h.2.2 k = c := by
  unfold am_look at e
  by_cases hk : k < h.1
  · rw [if_pos hk] at e
    exact ⟨hk, Option.some.inj e⟩
  · rw [if_neg hk] at e
    cases e
theorem am_look_of {h : am_H} {k : Nat} {c : am_C} (hk : k < h.1) (e : h.2.2 k = c) : am_look h k = some c := by
  unfold am_look
  rw [if_pos hk, e]
theorem am_W_al {g : am_G} {h : am_H} {H : Heap} (w : am_W g h H) {k : Nat} (hk : k < h.1) : am_al g k = g.2.2.1 + k := am_al_lt (Nat.lt_of_lt_of_le hk w.1.2)
/-- the row of a cell in the real world -/
theorem am_row {g : am_G} {h : am_H} {H : Heap} (w : am_W g h H) {k : Nat} {c : am_C} (e : am_look h k = some c) : (am_ws g h)[k]? = some (am_al g k, am_rc g c) := by
  obtain ⟨hk, rfl⟩ := am_look_lt e
  rw [am_W_al w hk]
  exact am_ws_at hk
-- the array classes
def am_tys (g : am_G) : List (ClassId × FieldType) := [(g.2.1 .int, .int), (g.2.1 .boolean, .boolean), (g.2.1 (.object RX0), .object RX0), (g.2.1 (.object RX2), .object RX2)]
-- locals
def am_as (g : am_G) : Nat → List Value → List (Nat × Value)
  | _, [] => []
  | i, v :: l => match v with
    | .null => am_as g (i + 1) l
    | v => (i, am_v g v) :: am_as g (i + 1) l
theorem am_as_mem (g : am_G) : ∀ (l : List Value) (i : Nat) (q : Nat × Value), q ∈ am_as g i l → i ≤ q.1 ∧ q.1 < i + l.length ∧ am_nth l (q.1 - i) ≠ .null ∧ q.2 = am_v g (am_nth l (q.1 - i)) := by
  intro l
  induction l with
  | nil => intro i q h; cases h
  | cons v l ih =>
    intro i q h
    have tail : q ∈ am_as g (i + 1) l → i ≤ q.1 ∧ q.1 < i + (v :: l).length ∧ am_nth (v :: l) (q.1 - i) ≠ .null ∧ q.2 = am_v g (am_nth (v :: l) (q.1 - i)) := by
      intro h
      obtain ⟨h1, h2, h3, h4⟩ := ih (i + 1) q h
      have e : q.1 - i = (q.1 - (i + 1)) + 1 := by omega
      refine ⟨by omega, by simp; omega, ?_, ?_⟩
      · rw [e]; exact h3
      · rw [e]; exact h4
    have here : v ≠ .null → q = (i, am_v g v) → i ≤ q.1 ∧ q.1 < i + (v :: l).length ∧ am_nth (v :: l) (q.1 - i) ≠ .null ∧ q.2 = am_v g (am_nth (v :: l) (q.1 - i)) := by
      rintro hv rfl
      refine ⟨Nat.le_refl _, by simp, ?_, ?_⟩
      · simp only [Nat.sub_self]; exact hv
      · simp only [Nat.sub_self]; rfl
    cases v with
    | null => exact tail h
    | _ =>
      rcases List.mem_cons.mp h with h | h
      · exact here (fun z => by cases z) h
      · exact tail h
theorem am_as_of (g : am_G) : ∀ (l : List Value) (i j : Nat) (v : Value), am_nth l j = v → v ≠ .null → (i + j, am_v g v) ∈ am_as g i l := by
  intro l
  induction l with
  | nil =>
    intro i j v h hv
    exact absurd h.symm hv
  | cons w l ih =>
    intro i j v h hv
    cases j with
    | zero =>
      have h : w = v := h
      subst h
      cases w with
      | null => exact absurd rfl hv
      | _ => exact List.mem_cons_self
    | succ j =>
      have h2 := ih (i + 1) j v h hv
      rw [show i + 1 + j = i + (j + 1) by omega] at h2
      cases w with
      | null => exact h2
      | _ => exact List.mem_cons_of_mem _ h2
theorem am_nth_set (v : Value) : ∀ (l : List Value) (i j : Nat), am_nth (am_set l i v) j = if j = i ∧ i < l.length then v else am_nth l j := by
  intro l
  induction l with
  | nil => intro i j; simp [am_set, am_nth]
  | cons w l ih =>
    intro i j
    cases i with
    | zero =>
      cases j with
      | zero => simp [am_set, am_nth]
      | succ j => simp [am_set, am_nth]
    | succ i =>
      cases j with
      | zero => simp [am_set, am_nth]
      | succ j => simp [am_set, am_nth, ih]
theorem am_set_len (v : Value) : ∀ (l : List Value) (i : Nat), (am_set l i v).length = l.length := by
  intro l
  induction l with
  | nil => intro i; rfl
  | cons w l ih =>
    intro i
    cases i with
    | zero => rfl
    | succ i => simp [am_set, ih]
theorem am_nl_cat : ∀ (l : List Value) (j : Nat), am_nl l = true → ∀ x : Int64, am_nth l j ≠ .long x := by
  intro l
  induction l with
  | nil => intro j _ x h; cases h
  | cons w l ih =>
    intro j h x e
    have h2 : am_nl l = true := by cases w <;> first | exact h | cases h
    cases j with
    | zero =>
      have e : w = .long x := e
      subst e
      cases h
    | succ j => exact ih j h2 x e
theorem am_nl_catd : ∀ (l : List Value) (j : Nat), am_nl l = true → ∀ x : UInt64, am_nth l j ≠ .double x := by
  intro l
  induction l with
  | nil => intro j _ x h; cases h
  | cons w l ih =>
    intro j h x e
    have h2 : am_nl l = true := by cases w <;> first | exact h | cases h
    cases j with
    | zero =>
      have e : w = .double x := e
      subst e
      cases h
    | succ j => exact ih j h2 x e
def am_LR (g : am_G) (lr : Array Slot) (n : Nat) (ls : List Value) : Prop := lv_has lr n (am_as g 0 ls) ∧ g.2.2.2.2.category = 1
theorem am_LR_at {g : am_G} {lr : Array Slot} {n : Nat} {ls : List Value} (h : am_LR g lr n ls) {i : Nat} {v : Value} (e : am_nth ls i = v) (hv : v ≠ .null) : lr[i]? = some (.val (am_v g v)) := by
  have h1 := h.1.2.2 _ (am_as_of g ls 0 i v e hv)
  simpa using h1
theorem am_LR_set {g : am_G} {lr lr' : Array Slot} {n : Nat} {ls : List Value} {i : Nat} {v : Value} (h : am_LR g lr n ls) (hl : am_nl ls = true) (h' : lv_has lr' n ((i, am_v g v) :: (am_as g 0 ls).filter (fun q => !(q.1 == i) && !(q.1 + 1 == i && q.2.category == 2)))) : am_LR g lr' n (am_set ls i v) := by
  refine ⟨⟨h'.1, h'.2.1, fun q hq => h'.2.2 q ?_⟩, h.2⟩
  obtain ⟨h1, h2, h3, h4⟩ := am_as_mem g _ 0 q hq
  simp only [Nat.sub_zero, Nat.zero_add, am_set_len] at h2 h3 h4
  rw [am_nth_set] at h3 h4
  by_cases c : q.1 = i ∧ i < ls.length
  · rw [if_pos c] at h3 h4
    obtain ⟨q1, q2⟩ := q
    obtain ⟨c1, -⟩ := c
    simp only at c1 h4
    subst c1; subst h4
    exact List.mem_cons_self
  · rw [if_neg c] at h3 h4
    have hne : ¬ q.1 = i := fun z => c ⟨z, by omega⟩
    refine List.mem_cons_of_mem _ (List.mem_filter.mpr ⟨?_, ?_⟩)
    · have h5 := am_as_of g ls 0 q.1 _ rfl h3
      rw [Nat.zero_add, ← h4] at h5
      exact h5
    · have hcat : ¬ q.2.category = 2 := by
        rw [h4]
        generalize hw : am_nth ls q.1 = w at h3
        cases w with
        | long x => exact absurd hw (am_nl_cat ls q.1 hl x)
        | double x => exact absurd hw (am_nl_catd ls q.1 hl x)
        | retAddr x => show ¬ g.2.2.2.2.category = 2; rw [h.2]; decide
        | _ => simp [am_v, Value.category]
      simp [hne, hcat]
theorem am_LR_n {g : am_G} {lr : Array Slot} {n : Nat} {ls : List Value} (h : am_LR g lr n ls) : lr.size = n := h.1.1
