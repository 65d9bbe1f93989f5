/-! THE TABLES' CHECK, AND ONE STEP OF THE ABSTRACT MACHINE IS ONE OF THE REAL ONE -/
def am_swk (pc : Nat) : Nat → List Nat → List Int → Bool
  | _, [], [] => true
  | j, a :: t :: l, o :: os => decide (a = j ∧ j < 1000 ∧ (pc : Int) + o = (t : Int)) && am_swk pc (j + 1) l os
  | _, _, _ => false
def am_wd (pos : Nat) (w : Cond) : Prop := lw_tbl[pos]? = some w
def am_ckF (k pos idx ci j : Nat) : Bool := decide (ci < 6 ∧ j < am_N ci ∧ (am_T ci j).1 = am_cn ci ∧ lw_tbl[pos]? = some (.fieldLink (tm_y k).cls idx (am_cn ci) (am_T ci j).2.1 (am_T ci j).2.2.1))
def am_ckC (k op idx : Nat) (aux : List Nat) : Bool := decide ((am_x aux 1 < 169 ∧ am_x aux 2 = tm_n (am_x aux 1) + (if op = 0 then 0 else 1) ∧ tm_kd (am_x aux 1) = op) ∧ (tm_fr (am_x aux 1) + 1 ≤ tm_fr k ∧ tm_lo (am_x aux 1) + 19 + tm_ml (am_x aux 1) ≤ tm_lo k) ∧ (if am_x aux 4 = 0 then lw_tbl[am_x aux 5]? = some (.methodLink (tm_y k).cls idx (tm_y (am_x aux 1))) else Cond.methodLinkNest (tm_y k).cls idx (tm_y (am_x aux 1)) "SlotMesh" ∈ am_nw) ∧ (am_x aux 3 < 2 → tm_mc (am_x aux 1) = 0 ∧ tm_ms (am_x aux 1) = 0))
def am_ckB (k pos idx : Nat) (y : MethodName) : Bool := decide (1 ≤ tm_fr k ∧ 30 ≤ tm_lo k ∧ lw_tbl[pos]? = some (.methodLink (tm_y k).cls idx y))
def am_ck (k : Nat) (q : am_I) : Bool := match q with
  | (pc, i, n, aux, imm) => match i with
    | .iconst v => decide (n = 1 ∧ Int32.ofInt v = imm)
    | .bipush v => decide (n = 2 ∧ (Int8.ofInt v).toInt32 = imm)
    | .sipush v => decide (n = 3 ∧ (Int16.ofInt v).toInt32 = imm)
    | .ldc_w j => decide (n = 3 ∧ Cond.constant (tm_y k).cls j imm ∈ am_cst)
    | .ldc j => match aux with
      | [] => decide (n = 2 ∧ Cond.constant (tm_y k).cls j imm ∈ am_cst)
      | a :: _ => decide (n = 2 ∧ (1000001 ≤ a ∧ a < 1000005) ∧ am_si (a - 1000001) = j ∧ (tm_y k).cls = RX3)
    | .lconst v => decide (n = 1 ∧ Int64.ofNat v.val = imm.toInt64)
    | .ldc2_w j => decide (n = 3 ∧ Cond.constantLong (tm_y k).cls j imm.toInt64 ∈ am_cst)
    | .iload_n j => decide (n = 1 ∧ j.val = am_x aux 0)
    | .lload_n j => decide (n = 1 ∧ j.val = am_x aux 0)
    | .aload_n j => decide (n = 1 ∧ j.val = am_x aux 0)
    | .iload j => decide (n = 2 ∧ j = am_x aux 0)
    | .lload j => decide (n = 2 ∧ j = am_x aux 0)
    | .istore_n j => decide (n = 1 ∧ j.val = am_x aux 0 ∧ am_x aux 0 < tm_ml k)
    | .astore_n j => decide (n = 1 ∧ j.val = am_x aux 0 ∧ am_x aux 0 < tm_ml k)
    | .istore j => decide (n = 2 ∧ j = am_x aux 0 ∧ am_x aux 0 < tm_ml k)
    | .iinc j v => decide (n = 3 ∧ j = am_x aux 0 ∧ am_x aux 0 < tm_ml k ∧ Int32.ofInt v = imm)
    | .goto off => decide (n = 3 ∧ (pc : Int) + off = (am_x aux 0 : Int))
    | .ifCond _ off => decide (n = 3 ∧ (pc : Int) + off = (am_x aux 0 : Int))
    | .if_icmp _ off => decide (n = 3 ∧ (pc : Int) + off = (am_x aux 0 : Int))
    | .tableswitch d lo hi offs => decide (lo = 0 ∧ hi + 1 = (offs.toList.length : Int) ∧ (pc : Int) + d = (am_x aux 0 : Int) ∧ am_swk pc 0 aux.tail offs.toList = true)
    | .getfield j => match am_x aux 2 with
      | 0 => decide (n = 3) && am_ckF k (am_x aux 3) j (am_x aux 0) (am_x aux 1)
      | 1 => decide (n = 3) && am_ckF k (am_x aux 3) j (am_x aux 0) (am_x aux 1)
      | 3 => decide (n = 3 ∧ lw_tbl[am_x aux 3]? = some (.fieldLink (tm_y k).cls j "java/lang/String" "value" "[B"))
      | _ => decide (n = 3 ∧ lw_tbl[am_x aux 3]? = some (.fieldLink (tm_y k).cls j "java/lang/String" "coder" "B"))
    | .putfield j => decide (n = 3) && am_ckF k (am_x aux 3) j (am_x aux 0) (am_x aux 1) && decide ((am_T (am_x aux 0) (am_x aux 1)).2.2.2 = false ∨ (tm_kd k = 2 ∧ (tm_y k).cls = am_cn (am_x aux 0))) && match am_x aux 2 with
      | 0 => decide (am_ty (am_x aux 0) (am_x aux 1) = .int)
      | 1 => (am_ty (am_x aux 0) (am_x aux 1)).isReference
      | _ => decide (am_ty (am_x aux 0) (am_x aux 1) = .boolean)
    | .getstatic j => match am_x aux 0 with
      | 0 => decide (n = 3 ∧ imm = 1 ∧ lw_tbl[am_x aux 2]? = some (.fieldLink (tm_y k).cls j "java/lang/String" "COMPACT_STRINGS" "Z"))
      | _ => decide (n = 3 ∧ lw_tbl[am_x aux 2]? = some (.fieldLink (tm_y k).cls j "jdk/internal/util/Preconditions" "SIOOBE_FORMATTER" "Ljava/util/function/BiFunction;"))
    | .aaload => decide (n = 1 ∧ (am_x aux 0 = 0 ∨ am_x aux 0 = 2))
    | .aastore => decide (n = 1 ∧ (am_x aux 0 = 0 ∨ am_x aux 0 = 2))
    | .newarray t => decide (n = 2 ∧ newarray.typeOf t = am_aty (am_x aux 0) ∧ (am_x aux 0 = 0 ∨ am_x aux 0 = 1))
    | .anewarray j => decide (n = 3 ∧ (am_x aux 0 = 0 ∨ am_x aux 0 = 2) ∧ lw_tbl[am_x aux 1]? = some (.classLink (tm_y k).cls j (am_cn (am_x aux 0))))
    | .new j => decide (n = 3 ∧ am_x aux 0 < 6 ∧ lw_tbl[am_x aux 1]? = some (.classLink (tm_y k).cls j (am_cn (am_x aux 0))) ∧ lw_tbl[am_x aux 2]? = some (.instantiable (am_cn (am_x aux 0)) (am_N (am_x aux 0))) ∧ lw_tbl[am_x aux 3]? = some (.initialized (am_cn (am_x aux 0))))
    | .invokevirtual j => decide (n = 3) && am_ckC k 1 j aux
    | .invokespecial j => match am_x aux 0 with
      | 0 => decide (n = 3) && am_ckB k (am_x aux 5) j objectInit
      | _ => decide (n = 3) && am_ckC k 2 j aux
    | .invokestatic j => match am_x aux 0 with
      | 2 => decide (n = 3) && am_ckB k (am_x aux 5) j Lib.Math.max.name
      | 3 => decide (n = 3) && am_ckB k (am_x aux 5) j Lib.Math.min.name
      | 4 => decide (n = 3) && am_ckB k (am_x aux 5) j arraycopyName
      | _ => decide (n = 3) && am_ckC k 0 j aux
    | .iadd | .isub | .imul | .iand | .ior | .ixor | .idiv | .irem | .ineg | .ishl | .ishr | .iushr | .i2l | .i2c | .lcmp | .dup | .dup2 | .pop | .iaload | .baload | .iastore | .bastore | .arraylength | .ireturn | .return_ => decide (n = 1)
    | _ => true
/-- a method's table is right: each row decodes so, and what stands beside it is what the tables say -/
def am_okk (k : Nat) : Prop := ∀ q ∈ tm_k k, decode (tm_b k) q.1 = .ok (q.2.1, q.2.2.1) ∧ am_ck k q = true
theorem am_fetch_in : ∀ (l : List am_I) (pc : Nat) (x : Instr × Nat × List Nat × Int32), am_fetch l pc = some x → (pc, x) ∈ l := by
  intro l
  induction l with
  | nil => intro pc x h; cases h
  | cons q l ih =>
    intro pc x h
    obtain ⟨p, y⟩ := q
    unfold am_fetch at h
    split at h
    · rename_i e
      cases h
      rw [Nat.eq_of_beq_eq_true e]
      exact List.mem_cons_self
    · exact List.mem_cons_of_mem _ (ih pc x h)
theorem am_pop_inv : ∀ (n : Nat) (acc st as rest : List Value), am_pop n acc st = some (as, rest) → ∃ tk, st = tk ++ rest ∧ as = tk.reverse ++ acc ∧ tk.length = n := by
  intro n
  induction n with
  | zero => intro acc st as rest h; cases h; exact ⟨[], rfl, rfl, rfl⟩
  | succ n ih =>
    intro acc st as rest h
    cases st with
    | nil => cases h
    | cons v st =>
      obtain ⟨tk, h1, h2, h3⟩ := ih (v :: acc) st as rest h
      exact ⟨v :: tk, by rw [h1]; rfl, by rw [h2]; simp, by simp [h3]⟩
theorem am_sw_inv {x : Int32} {d pc : Nat} {K : Nat → Prop} : ∀ (l : List Nat) (os : List Int) (j : Nat), am_swk pc j l os = true → am_sw x d K l → (∃ (i : Nat) (o : Int) (t : Nat), os[i]? = some o ∧ x.toInt = ((j + i : Nat) : Int) ∧ (pc : Int) + o = (t : Int) ∧ K t) ∨ ((x.toInt < (j : Int) ∨ (j : Int) + (os.length : Int) ≤ x.toInt) ∧ K d) := by
  intro l
  induction l using am_sw.induct with
  | case1 a t l ih =>
    intro os j h hs
    cases os with
    | nil => cases h
    | cons o os =>
      simp only [am_swk, Bool.and_eq_true, decide_eq_true_eq] at h
      obtain ⟨⟨rfl, hj, ho⟩, h⟩ := h
      by_cases e : x = nI a
      · refine Or.inl ⟨0, o, t, rfl, ?_, ho, hs.1 e⟩
        rw [e, nI_toInt (by omega)]
        rfl
      · have hne : ¬ x.toInt = (a : Int) := fun z => e (by
          apply Int32.toInt_inj.mp
          rw [z, nI_toInt (by omega)])
        rcases ih os (a + 1) h (hs.2 e) with ⟨i, o', t', h1, h2, h3, h4⟩ | ⟨h1, h2⟩
        · exact Or.inl ⟨i + 1, o', t', by simpa using h1, by rw [h2]; congr 1; omega, h3, h4⟩
        · refine Or.inr ⟨?_, h2⟩
          simp only [List.length_cons]
          omega
  | case2 l hl =>
    intro os j h hs
    have hl' : l = [] ∧ os = [] := by
      match l, os, hl, h with
      | [], [], _, _ => exact ⟨rfl, rfl⟩
      | [], o :: os, _, h => cases h
      | [a], [], _, h => cases h
      | [a], o :: os, _, h => cases h
      | a :: t :: l, _, hl, _ => exact absurd rfl (hl a t l)
    obtain ⟨rfl, rfl⟩ := hl'
    refine Or.inr ⟨?_, hs⟩
    simp only [List.length_nil]
    omega
theorem am_1_inv {st : List Value} {f : Int32 → List Value → Prop} (h : am_1 st f) : ∃ x s, st = .int x :: s ∧ f x s := by
  unfold am_1 at h
  split at h
  · exact ⟨_, _, rfl, h⟩
  · exact h.elim
theorem am_2_inv {st : List Value} {f : Int32 → Int32 → List Value → Prop} (h : am_2 st f) : ∃ x y s, st = .int y :: .int x :: s ∧ f x y s := by
  unfold am_2 at h
  split at h
  · exact ⟨_, _, _, rfl, h⟩
  · exact h.elim
theorem am_l2_inv {st : List Value} {f : Int64 → Int64 → List Value → Prop} (h : am_l2 st f) : ∃ x y s, st = .long y :: .long x :: s ∧ f x y s := by
  unfold am_l2 at h
  split at h
  · exact ⟨_, _, _, rfl, h⟩
  · exact h.elim
theorem am_r_inv {st : List Value} {f : Nat → List Value → Prop} (h : am_r st f) : ∃ (a : Nat) (s : List Value), st = .ref a :: s ∧ f a s := by
  unfold am_r at h
  split at h
  · exact ⟨_, _, rfl, h⟩
  · exact h.elim
theorem am_ri_inv {st : List Value} {f : Nat → Int32 → List Value → Prop} (h : am_ri st f) : ∃ (a : Nat) (i : Int32) (s : List Value), st = .int i :: .ref a :: s ∧ f a i s := by
  unfold am_ri at h
  split at h
  · exact ⟨_, _, _, rfl, h⟩
  · exact h.elim
theorem am_rr2_inv {st : List Value} {f : Nat → Nat → List Value → Prop} (h : am_rr2 st f) : ∃ (a v : Nat) (s : List Value), st = .ref v :: .ref a :: s ∧ f a v s := by
  unfold am_rr2 at h
  split at h
  · exact ⟨_, _, _, rfl, h⟩
  · exact h.elim
theorem am_rii_inv {st : List Value} {f : Nat → Int32 → Int32 → List Value → Prop} (h : am_rii st f) : ∃ (a : Nat) (i x : Int32) (s : List Value), st = .int x :: .int i :: .ref a :: s ∧ f a i x s := by
  unfold am_rii at h
  split at h
  · exact ⟨_, _, _, _, rfl, h⟩
  · exact h.elim
theorem am_rir_inv {st : List Value} {f : Nat → Int32 → Nat → List Value → Prop} (h : am_rir st f) : ∃ (a : Nat) (i : Int32) (v : Nat) (s : List Value), st = .ref v :: .int i :: .ref a :: s ∧ f a i v s := by
  unfold am_rir at h
  split at h
  · exact ⟨_, _, _, _, rfl, h⟩
  · exact h.elim
theorem am_cpS_inv {st : List Value} {f : Nat → Int32 → Nat → Int32 → Int32 → List Value → Prop} (h : am_cpS st f) : ∃ (a0 : Nat) (sp : Int32) (a : Nat) (dp n : Int32) (s : List Value), st = .int n :: .int dp :: .ref a :: .int sp :: .ref a0 :: s ∧ f a0 sp a dp n s := by
  unfold am_cpS at h
  split at h
  · exact ⟨_, _, _, _, _, _, rfl, h⟩
  · exact h.elim
theorem am_ldi_inv {ls : List Value} {i : Nat} {f : Int32 → Prop} (h : am_ldi ls i f) : ∃ x, am_nth ls i = .int x ∧ f x := by
  unfold am_ldi at h
  split at h
  · rename_i x e; exact ⟨x, e, h⟩
  · exact h.elim
theorem am_ldl_inv {ls : List Value} {i : Nat} {f : Int64 → Prop} (h : am_ldl ls i f) : ∃ x, am_nth ls i = .long x ∧ f x := by
  unfold am_ldl at h
  split at h
  · rename_i x e; exact ⟨x, e, h⟩
  · exact h.elim
theorem am_ldr_inv {ls : List Value} {i : Nat} {f : Nat → Prop} (h : am_ldr ls i f) : ∃ x, am_nth ls i = .ref x ∧ f x := by
  unfold am_ldr at h
  split at h
  · rename_i x e; exact ⟨x, e, h⟩
  · exact h.elim
theorem am_ble {n : Nat} {P : Prop} (h : am_if (Nat.ble n 4) P) : n ≤ 4 ∧ P := ⟨Nat.le_of_ble_eq_true (am_if_inv h).1, (am_if_inv h).2⟩
