/-! THE CLAIM OUT OF ONE WALK OF THE LAW'S BODY. Your part is whole_start (and what it stands on); all else here is the same for every law, but numbers. -/
def R_law : String := "SlotMeshLaw"
def lw_P (b : Addr) (xs : List Int32) (args : Array Value) (s : State) : Prop := args = #[.ref b] ∧ s.IntsAt b xs ∧ xs.length ≤ 3072 ∧ (Jvm.Cond.and given_1 narrow_1).before args s = true
def lw_Q (_ : Array Value) (s : State) (o : Outcome) (t : State) : Prop := o = .returned (some (.int 1)) ∧ Framed s o t [] 600000 7302250
def lw_Z (below : List Frame) (a : Array Value) (s : State) : State → Prop := fun t => ∃ o, t.status = .running ∧ Ended t below o ∧ lw_Q a s o t
/-- the law's own end, with 1 on the stack, nothing written that was there before, its room as the claim has it -/
theorem lw_ret {p : Program} {l : Launch} {e : Env} {s : State} {m : MethodId} {below : List Frame} {meth : Method} {c : Code} {b : Nat} (hx : p.tables.exec = Jvm.exec) (hb : c.code = code) (hr : meth.sig.returnType = ret) (hlocks : meth.locks = false) {pc : Nat} {H : Heap} {ls : Array Slot} (hdg : decode code pc = .ok (.ireturn, 1)) : W p l e room_1 s m #[Value.ref b] below meth c H [] 600000 7302250 (lw_Z below #[Value.ref b] s) (F0 m pc ls [.int 1]) := by
  intro T hT X
  obtain ⟨fs, hret, hrun, hended, hW, hframe⟩ := X.leave (v := some (.int 1)) (hlocks := hlocks) (fun h => by rw [hr] at h; cases h)
  have hmeth' : T.vm.method? m = some meth := X.method'
  refine ⟨T.setFrames fs, ?_, .returned (some (.int 1)), hrun, hended, rfl, ⟨_, rfl⟩, hW, hframe⟩
  jvm_step X.here [X.here.top, hx, hb, hdg, hmeth', hr, ret, narrow_b1]
  (try refine ⟨rfl, ?_⟩); (try refine ⟨rfl, ?_⟩)
  first | (intro acts; rw [hret _ acts rfl rfl rfl]) | rw [hret _ _ rfl rfl rfl]
  exact Steps.refl _
/-- what holds at the law's entry: the machine, the code, the tables' words (any of lw_tbl by 'hts w (by decide +kernel)'), the script of L ints xs at the cell b, what the Statement gives of the start (any of its parts by flat_of_before) -/
def lw_At (p : Program) (s : State) (m : MethodId) (meth : Method) (c : Code) (b L : Nat) (xs : Nat → Int32) : Prop :=
  p.tables.exec = Jvm.exec ∧ c.code = code ∧ meth.sig.returnType = ret ∧ c.maxLocals = 4 ∧ s.vm.findClass R_law = some m.cls ∧ (∀ w ∈ lw_tbl, w.before #[Value.ref b] s = true) ∧ va_X b L xs s s.heap ∧ b < s.heap.size ∧ meth.locks = false ∧ (Jvm.Cond.and given_1 narrow_1).before #[Value.ref b] s = true
theorem lw_y : (tm_y m_L_law).cls = R_law := by decide +kernel
theorem lw_b : tm_b m_L_law = code := rfl
theorem lw_ml : tm_ml m_L_law = 4 := by decide +kernel
theorem lw_rm : tm_fr m_L_law ≤ room_1.frames ∧ tm_lo m_L_law ≤ room_1.locals ∧ tm_mc m_L_law ≤ room_1.cells ∧ tm_ms m_L_law ≤ room_1.slots := by decide +kernel
theorem lw_kd : ¬ tm_kd m_L_law = 2 := by decide +kernel
theorem lw_in6 : ∀ i, i < 6 → ∃ n, Cond.instantiable (am_cn i) n ∈ lw_tbl := by
  intro i hi
  match i, hi with
  | 0, _ => exact ⟨11, by decide +kernel⟩
  | 1, _ => exact ⟨3, by decide +kernel⟩
  | 2, _ => exact ⟨3, by decide +kernel⟩
  | 3, _ => exact ⟨6, by decide +kernel⟩
  | 4, _ => exact ⟨7, by decide +kernel⟩
  | 5, _ => exact ⟨20, by decide +kernel⟩
  | i + 6, h => omega
theorem lw_known {s : State} {a : Array Value} (hts : ∀ w ∈ lw_tbl, w.before a s = true) : ∃ (dC : Nat → ClassId) (dI : Nat → Nat → Nat), ∀ (k : Nat) (q : vw_C), vwCl[k]? = some q → u_Kn s q.1 q.2.1 q.2.2 (dC k) (dI k) := by
  have h0 : ∀ i : Nat, ∃ q : ClassId × (Nat → Nat), i < 6 → u_Kn s (am_cn i) (am_T i) (am_N i) q.1 q.2 := by
    intro i
    by_cases hi : i < 6
    · obtain ⟨n, hn⟩ := lw_in6 i hi
      obtain ⟨cC, iS, hk⟩ := u_known (C := am_cn i) (T := am_T i) (N := am_N i) (n := n) hts (am_inn i hi) (hts _ hn)
      exact ⟨(cC, iS), fun _ => hk⟩
    · obtain ⟨n, hn⟩ := lw_in6 0 (by omega)
      obtain ⟨cC, iS, hk⟩ := u_known (C := am_cn 0) (T := am_T 0) (N := am_N 0) (n := n) hts (am_inn 0 (by omega)) (hts _ hn)
      exact ⟨(cC, iS), fun z => absurd z hi⟩
  obtain ⟨ad, had⟩ := Classical.axiomOfChoice h0
  refine ⟨fun k => (ad k).1, fun k => (ad k).2, fun k q hq => ?_⟩
  have hk : k < 6 := (List.getElem?_eq_some_iff.mp hq).1
  rw [am_cl_at k hk] at hq
  cases hq
  exact had k hk
theorem lw_ty {s : State} {a : Array Value} (hts : ∀ w ∈ lw_tbl, w.before a s = true) : ∃ ty : FieldType → ClassId, ∀ t, t = .int ∨ t = .boolean ∨ t = .object RX0 ∨ t = .object RX2 → ArrOfT s (ty t) t ∧ va_RA s (ty t) t := by
  have wI : Cond.arrayClass .int ∈ lw_tbl := by decide +kernel
  have wB : Cond.arrayClass .boolean ∈ lw_tbl := by decide +kernel
  have w0 : Cond.arrayOver (.object RX0) ∈ lw_tbl := by decide +kernel
  have w2 : Cond.arrayOver (.object RX2) ∈ lw_tbl := by decide +kernel
  obtain ⟨cI, kI, pI, i1, i2, i3⟩ := Cond.arrayClass_spec (hts _ wI)
  obtain ⟨cB, kB, pB, j1, j2, j3⟩ := Cond.arrayClass_spec (hts _ wB)
  obtain ⟨p0, c0, k0, a1, a2, a3, a4, a5⟩ := Cond.arrayOver_spec (hts _ w0)
  obtain ⟨p2, c2, k2, b1, b2, b3, b4, b5⟩ := Cond.arrayOver_spec (hts _ w2)
  have n1 : ¬ FieldType.boolean = .int := by decide
  have n2 : ¬ FieldType.object RX0 = .int := by decide
  have n3 : ¬ FieldType.object RX0 = .boolean := by decide
  have n4 : ¬ FieldType.object RX2 = .int := by decide
  have n5 : ¬ FieldType.object RX2 = .boolean := by decide
  have n6 : ¬ FieldType.object RX2 = .object RX0 := by decide
  refine ⟨fun t => if t = .int then cI else if t = .boolean then cB else if t = .object RX0 then c0 else c2, fun t ht => ?_⟩
  dsimp only
  rcases ht with rfl | rfl | rfl | rfl
  · rw [if_pos rfl]
    exact ⟨fun n z => ⟨fun k h => (by cases h), kI, i2, pI, i3⟩, i1⟩
  · rw [if_neg n1, if_pos rfl]
    exact ⟨fun n z => ⟨fun k h => (by cases h), kB, j2, pB, j3⟩, j1⟩
  · rw [if_neg n2, if_neg n3, if_pos rfl]
    exact ⟨fun n z => ⟨fun k h => (by cases h), k0, a3, p0, a4⟩, k0, p0, a3, a4, a1, a5⟩
  · rw [if_neg n4, if_neg n5, if_neg n6]
    exact ⟨fun n z => ⟨fun k h => (by cases h), k2, b3, p2, b4⟩, k2, p2, b3, b4, b1, b5⟩
