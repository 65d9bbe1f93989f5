/-! CHAINS OF OBJECTS OVER A BASE -/
abbrev ch_E : Type := sg_T × Nat × sg_S
def CH : List ch_E → am_H → am_H
  | [], H => H
  | q :: r, H => ob q.1 (CH r H) q.2.1 q.2.2
def ouT (l : List ch_E) (a : Nat) : Prop := ∀ q ∈ l, a < q.2.1 ∨ q.2.1 + q.1.2.2.2.1 < a
theorem ouT_c {q : ch_E} {l : List ch_E} {a : Nat} (h : ouT (q :: l) a) : (a < q.2.1 ∨ q.2.1 + q.1.2.2.2.1 < a) ∧ ouT l a := ⟨h q (List.mem_cons_self), fun z hz => h z (List.mem_cons_of_mem _ hz)⟩
theorem CH_1 (H : am_H) : ∀ l, (CH l H).1 = H.1 := by
  intro l
  induction l with
  | nil => rfl
  | cons q r ih => exact ih
theorem CH_2 (H : am_H) : ∀ l, (CH l H).2.1 = H.2.1 := by
  intro l
  induction l with
  | nil => rfl
  | cons q r ih => exact ih
theorem CH_gr (H : am_H) (n s : Nat) : ∀ l, gr (CH l H) n s = CH l (gr H n s) := by
  intro l
  induction l with
  | nil => rfl
  | cons q r ih =>
    show ob q.1 (gr (CH r H) n s) q.2.1 q.2.2 = ob q.1 (CH r (gr H n s)) q.2.1 q.2.2
    rw [ih]
theorem CH_look {H : am_H} {a : Nat} : ∀ {l : List ch_E}, ouT l a → am_look (CH l H) a = am_look H a := by
  intro l
  induction l with
  | nil => intro _; rfl
  | cons q r ih =>
    intro h
    obtain ⟨h1, h2⟩ := ouT_c h
    show am_look (ob q.1 (CH r H) q.2.1 q.2.2) a = _
    rw [ob_looko h1, ih h2]
theorem CH_put {H : am_H} {a : Nat} {c : am_C} : ∀ {l : List ch_E}, ouT l a → am_put (CH l H) a c = CH l (am_put H a c) := by
  intro l
  induction l with
  | nil => intro _; rfl
  | cons q r ih =>
    intro h
    obtain ⟨h1, h2⟩ := ouT_c h
    show am_put (ob q.1 (CH r H) q.2.1 q.2.2) a c = ob q.1 (CH r (am_put H a c)) q.2.1 q.2.2
    rw [ob_putO h1, ih h2]
theorem CH_push {H : am_H} {n : Nat} {c : am_C} {l : List ch_E} (h : ouT l H.1) : am_push (CH l H) n c = CH l (am_push H n c) := by
  have e1 : am_push (CH l H) n c = gr (am_put (CH l H) H.1 c) (H.1 + 1) (H.2.1 + n) := by
    refine Prod.ext ?_ (Prod.ext ?_ ?_)
    · show (CH l H).1 + 1 = _; rw [CH_1]; rfl
    · show (CH l H).2.1 + n = _; rw [CH_2]; rfl
    · show va_up (CH l H).2.2 (CH l H).1 c = va_up (CH l H).2.2 H.1 c
      rw [CH_1]
  rw [e1, CH_put h, CH_gr]
  rfl
theorem CH_pF {H H' : am_H} {a ci k : Nat} {v : Value} {l : List ch_E} (h : ouT l a) (e : am_pF H a ci k v = some H') : am_pF (CH l H) a ci k v = some (CH l H') := by
  unfold am_pF at e ⊢
  rw [CH_look h]
  revert e
  cases am_look H a with
  | none => intro e; exact absurd e (by simp)
  | some c =>
    cases c with
    | inl x => intro e; exact absurd e (by simp)
    | inr x =>
      obtain ⟨c, fs⟩ := x
      intro e
      by_cases q : c = ci ∧ k < fs.length
      · simp only [if_pos q] at e ⊢
        rw [CH_put h]
        exact congrArg (fun z => some (CH l z)) (Option.some.inj e)
      · simp only [if_neg q] at e
        exact absurd e (by simp)
theorem CH_gR {H : am_H} {a ci k x : Nat} {l : List ch_E} (h : ouT l a) (e : am_gR H a ci k = some x) : am_gR (CH l H) a ci k = some x := by
  unfold am_gR am_fld at e ⊢
  rw [CH_look h]
  exact e
theorem CH_sA {H H' : am_H} {a ci v : Nat} {C : String} {i : Int32} {l : List ch_E} (h : ouT l a) (hv : am_cls (CH l H) v = some ci) (e : ∃ n f, am_rr H a = some (.object C, n, f) ∧ ¬ (i < 0 ∨ n ≤ i.toNatClampNeg) ∧ H' = am_put H a (.inl (.object C, n, .inr (.inr (.inr (.inr (va_up f i.toNatClampNeg (some v)))))))) : am_sA (CH l H) C ci a i v = some (CH l H') := by
  obtain ⟨n, f, e1, e2, e3⟩ := e
  unfold am_sA
  have : am_rr (CH l H) a = some (.object C, n, f) := by
    unfold am_rr at e1 ⊢
    rw [CH_look h]
    exact e1
  rw [this]
  show (if (FieldType.object C = FieldType.object C ∧ am_cls (CH l H) v = some ci) ∧ ¬ (i < 0 ∨ n ≤ i.toNatClampNeg) then some (am_put (CH l H) a _) else none) = _
  rw [if_pos ⟨⟨rfl, hv⟩, e2⟩, CH_put h, e3]
