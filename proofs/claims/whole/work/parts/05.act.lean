/-! CONTRACTS IN ABSTRACT WORDS: am_ok (a call), am_wa (a place in a method's run) -/
def am_gt : List Cond := lw_tbl.filter goodWord
theorem am_gt_of {w : Cond} (h : w ∈ lw_tbl) (g : goodWord w = true) : w ∈ am_gt := List.mem_filter.mpr ⟨h, g⟩
theorem am_gt_lw {w : Cond} (h : w ∈ am_gt) : w ∈ lw_tbl := (List.mem_filter.mp h).1
theorem am_gt_good : GoodIn am_gt am_gt := fun w h => ⟨h, good_of_word (List.mem_filter.mp h).2⟩
/-- what is known of the state besides the cells of ours -/
def am_X (L : Nat) (xs : Nat → Int32) (g : am_G) (U : State) : Prop :=
  va_K g.1 vwCl (am_tys g) U ∧ (∀ w ∈ am_nw, va_Nw w U) ∧ (va_AO RX0 U ∧ va_AO RX2 U) ∧ (va_X (g.2.2.2.1 0) L xs U U.heap ∧ g.2.2.2.1 0 < g.2.2.1) ∧ (∀ i, i < 4 → vk_R RX3 (am_si i) (am_stx i) (g.2.2.2.1 (1 + i)) U) ∧ vk_S 4 am_sls am_sbs (fun i => g.2.2.2.1 (1 + i)) (fun i => g.2.2.2.1 (11 + i)) (am_A g) U U.heap ∧ va_Z "java/lang/String" "COMPACT_STRINGS" "Z" (.int 1) (am_A g) U U.heap ∧ va_Z "jdk/internal/util/Preconditions" "SIOOBE_FORMATTER" "Ljava/util/function/BiFunction;" g.2.2.2.2 (am_A g) U U.heap ∧ g.2.2.1 ≤ U.heap.size ∧ g.2.2.2.2.category = 1
theorem am_nw_form : ∀ w ∈ am_nw, ∃ a i x h, w = .methodLinkNest a i x h := by
  intro w hw
  simp only [am_nw, List.mem_cons, List.not_mem_nil, or_false] at hw
  rcases hw with rfl | rfl | rfl | rfl | rfl <;> exact ⟨_, _, _, _, rfl⟩
theorem am_X_go {L : Nat} {xs : Nat → Int32} {g : am_G} {s U : State} {H : Heap} {locs : List Loc} (hX : am_X L xs g s) (hS : va_S (am_A g) s.heap H locs) (hU : U.heap = H) (hW : s.WarmedH U.vm) : am_X L xs g U := by
  obtain ⟨h1, h2, h3, h4, h5, h6, h7, h8, h9, h10⟩ := hX
  have ha := hW.alike
  subst hU
  have hk : ∀ a : Nat, a < s.heap.size → ¬ (am_A g) a → U.heap[a]? = s.heap[a]? := hS.2.1
  refine ⟨va_K.moved ha h1, fun w hw => ?_, ⟨h3.1.moved ha, h3.2.moved ha⟩, ⟨va_X.moved ha (h4.1.kept (hk _ (by omega) (by show ¬ g.2.2.1 ≤ _; omega))), h4.2⟩, fun i hi => (h5 i hi).warm hW, (h6.moved ha).kept hk, (h7.moved ha).kept hk, (h8.moved ha).kept hk, Nat.le_trans h9 hS.1, h10⟩
  obtain ⟨a, i, x, h, rfl⟩ := am_nw_form w hw
  exact va_Nw.warmM hW (h2 _ hw)
def tm_rm (k : Nat) : Room := { frames := tm_fr k, cells := tm_mc k, slots := tm_ms k, locals := tm_lo k }
def tm_ws (k : Nat) : List Cond := .code (tm_y k) (tm_b k) (tm_ml k) (tm_ret k) :: am_gt
def am_recv (k : Nat) (args : List Value) (h : am_H) : Prop := (tm_kd k = 1 → ∃ (a : Nat) (tl : List Value), args = .ref a :: tl ∧ (am_cls h a = some (tm_ci k) ∨ (tm_ci k = 99 ∧ 1000001 ≤ a ∧ a ≤ 1000004))) ∧ (tm_kd k = 2 → ∃ (a : Nat) (tl : List Value), args = .ref a :: tl)
/-- a call of method k from heap h with these arguments answers r and leaves the heap h' -/
def am_ok (L : Nat) (xs : Nat → Int32) (k : Nat) (args : List Value) (h : am_H) (r : Option Int32) (h' : am_H) : Prop :=
  (am_recv k args h ∧ h'.1 = h.1 + tm_mc k ∧ h'.2.1 = h.2.1 + tm_ms k) ∧ ∀ (l : Launch) (g : am_G), h'.1 ≤ 1000000 → Met l (tm_y k) (tm_ws k) (tm_rm k) (va_Pc (args.map (am_v g)) (fun U => am_W g h U.heap ∧ am_X L xs g U)) (fun _ st oc t => oc = .returned (r.map Value.int) ∧ am_W g h' t.heap ∧ va_F (am_A g) st t) (tm_mc k) (tm_ms k) (am_A g)
/-- what a method's run stands on: method k, begun at the heap h0, to end with r and the heap h1 -/
def am_act (L : Nat) (xs : Nat → Int32) (k : Nat) (h0 : am_H) (r : Option Int32) (h1 : am_H) (l : Launch) (g : am_G) (p : Program) (e : Env) (R : Room) (s : State) (m : MethodId) (args : Array Value) (below : List Frame) (meth : Method) (c : Code) (Q : State → Prop) : Prop :=
  p.tables.exec = Jvm.exec ∧ c.code = tm_b k ∧ c.maxLocals = tm_ml k ∧ s.vm.findClass (tm_y k).cls = some m.cls ∧ (∀ w ∈ am_gt, w.before args s = true) ∧ am_X L xs g s ∧ (s.heap.size = g.2.2.1 + h0.1 ∧ h0.1 + tm_mc k ≤ 1000000) ∧ (tm_fr k ≤ R.frames ∧ tm_lo k ≤ R.locals ∧ tm_mc k ≤ R.cells ∧ tm_ms k ≤ R.slots) ∧ (tm_kd k = 2 → meth.name = "<init>") ∧
  ∀ (H : Heap) (locs : List Loc) (lr : Array Slot) (pc : Nat), am_W g h1 H → va_S (am_A g) s.heap H locs →
    (∀ x, r = some x → decode (tm_b k) pc = .ok (.ireturn, 1) → am_fit (tm_rt k) x → W p l e R s m args below meth c H locs (h1.1 - h0.1) (h1.2.1 - h0.2.1) Q (F0 m pc lr [.int x])) ∧
    (r = none → decode (tm_b k) pc = .ok (.return_, 1) → W p l e R s m args below meth c H locs (h1.1 - h0.1) (h1.2.1 - h0.2.1) Q (F0 m pc lr []))
def am_sz (k : Nat) (h0 h : am_H) : Prop := (h0.1 ≤ h.1 ∧ h.1 ≤ h0.1 + tm_mc k) ∧ h0.2.1 ≤ h.2.1 ∧ h.2.1 ≤ h0.2.1 + tm_ms k
/-- from this place (pc, locals, stack, heap) method k comes to its end with r and h1 -/
def am_wa (L : Nat) (xs : Nat → Int32) (k : Nat) (h0 : am_H) (r : Option Int32) (h1 : am_H) (pc : Nat) (ls st : List Value) (h : am_H) : Prop :=
  ∀ (l : Launch) (g : am_G) (p : Program) (e : Env) (R : Room) (s : State) (m : MethodId) (args : Array Value) (below : List Frame) (meth : Method) (c : Code) (Q : State → Prop), am_act L xs k h0 r h1 l g p e R s m args below meth c Q →
  ∀ (H : Heap) (locs : List Loc) (lr : Array Slot), am_W g h H → va_S (am_A g) s.heap H locs → am_LR g lr (tm_ml k) ls → am_sz k h0 h →
  W p l e R s m args below meth c H locs (h.1 - h0.1) (h.2.1 - h0.2.1) Q (F0 m pc lr (st.map (am_v g)))
theorem am_S_tr {A : Nat → Prop} {H0 H H1 : Heap} {locs locs1 : List Loc} (h : va_S A H0 H locs) (h1 : va_S A H H1 locs1) : va_S A H0 H1 locs1 :=
  ⟨Nat.le_trans h.1 h1.1, fun q a b => (h1.2.1 q (Nat.lt_of_lt_of_le a h.1) b).trans (h.2.1 q a b), h1.2.2⟩
theorem am_S_here {A : Nat → Prop} {H0 H : Heap} {locs : List Loc} (h : va_S A H0 H locs) : va_S A H H locs := ⟨Nat.le_refl _, fun _ _ _ => rfl, h.2.2⟩
section AN
variable {p : Program} {l : Launch} {e : Env} {R : Room} {s : State} {m : MethodId} {args : Array Value} {below : List Frame} {meth : Method} {c : Code} {H : Heap} {locs : List Loc} {cells slots : Nat} {Q : State → Prop}
theorem am_sized {fr : JFrame} (k : H.size ≤ s.heap.size + cells → W p l e R s m args below meth c H locs cells slots Q fr) : W p l e R s m args below meth c H locs cells slots Q fr :=
  fun T hT X => k (by rw [← hT]; exact X.heapSize) T hT X
variable {L : Nat} {xs : Nat → Int32} {k : Nat} {h0 h1 h : am_H} {r : Option Int32} {g : am_G} {lr : Array Slot} {ls' st' : List Value} {pc' : Nat}
/-- behind a writing: the world goes on -/
theorem am_next {a : Nat} {cl : am_C} (A : am_act L xs k h0 r h1 l g p e R s m args below meth c Q) (hW : am_W g h H) (hS : va_S (am_A g) s.heap H locs) (hz : am_sz k h0 h) (ha : a < h.1) (K : am_wa L xs k h0 r h1 pc' ls' st' (am_put h a cl)) (hL : am_LR g lr (tm_ml k) ls')
    {H1 : Heap} {locs1 : List Loc} (hP : va_P g.1 vwCl ((am_ws g h).set a (am_al g a, am_rc g cl)) H1) (hS1 : va_S (am_A g) H H1 locs1) : W p l e R s m args below meth c H1 locs1 (h.1 - h0.1) (h.2.1 - h0.2.1) Q (F0 m pc' lr (st'.map (am_v g))) := by
  refine am_sized fun hs => ?_
  have hs0 := A.2.2.2.2.2.2.1.1
  have h1s := hS1.1
  have hws := hW.1.1
  have hz1 := hz.1.1
  refine K l g p e R s m args below meth c Q A H1 locs1 lr ⟨⟨?_, hW.1.2⟩, ?_⟩ (am_S_tr hS hS1) hL hz
  · show H1.size = g.2.2.1 + h.1
    omega
  · rw [← am_ws_set ha, ← am_W_al hW ha]
    exact hP
/-- behind a making -/
theorem am_nextN {n q : Nat} {cl : am_C} (A : am_act L xs k h0 r h1 l g p e R s m args below meth c Q) (hW : am_W g h H) (hS : va_S (am_A g) s.heap H locs) (hz : am_sz k h0 h) (hz2 : h.1 + 1 ≤ h0.1 + tm_mc k ∧ h.2.1 + n ≤ h0.2.1 + tm_ms k) (K : am_wa L xs k h0 r h1 pc' ls' (.ref h.1 :: st') (am_push h n cl)) (hL : am_LR g lr (tm_ml k) ls')
    {H1 : Heap} {locs1 : List Loc} (hP : va_P g.1 vwCl (am_ws g h ++ [(q, am_rc g cl)]) H1) (hD : va_D (am_A g) (am_ws g h ++ [(q, am_rc g cl)])) (hS1 : va_S (am_A g) H H1 locs1) : W p l e R s m args below meth c H1 locs1 (h.1 - h0.1 + 1) (h.2.1 - h0.2.1 + n) Q (F0 m pc' lr (.ref q :: st'.map (am_v g))) := by
  refine am_sized fun hs => ?_
  have hs0 := A.2.2.2.2.2.2.1
  have h1s := hS1.1
  have hws := hW.1.1
  obtain ⟨⟨z1, z2⟩, z3, z4⟩ := hz
  obtain ⟨y1, y2⟩ := hz2
  have hlast : (am_ws g h ++ [(q, am_rc g cl)])[h.1]? = some (q, am_rc g cl) := by
    rw [List.getElem?_append_right (by rw [am_ws_len]; omega), am_ws_len]
    simp
  have hq1 : g.2.2.1 ≤ q := hD.2 h.1 _ hlast
  have hq2 : q < H1.size := (hP h.1 _ hlast).lt
  have hne : ∀ j, j < h.1 → ¬ q = g.2.2.1 + j := by
    intro j hj e
    have hj' : (am_ws g h ++ [(q, am_rc g cl)])[j]? = some (g.2.2.1 + j, am_rc g (h.2.2 j)) := by
      rw [List.getElem?_append_left (by rw [am_ws_len]; exact hj)]
      exact am_ws_at hj
    have := hD.1 h.1 j _ _ hlast hj' e
    omega
  have hq : q = g.2.2.1 + h.1 := by
    rcases Nat.lt_or_ge q (g.2.2.1 + h.1) with z | z
    · exact absurd (show q = g.2.2.1 + (q - g.2.2.1) by omega) (hne _ (by omega))
    · omega
  have hal : am_al g h.1 = g.2.2.1 + h.1 := am_al_lt (by omega)
  have key := K l g p e R s m args below meth c Q A H1 locs1 lr ⟨⟨by show H1.size = g.2.2.1 + (h.1 + 1); omega, by show h.1 + 1 ≤ 1000000; omega⟩, by rw [← am_ws_push, ← hq]; exact hP⟩ (am_S_tr hS hS1) hL ⟨⟨by show h0.1 ≤ h.1 + 1; omega, y1⟩, by show h0.2.1 ≤ h.2.1 + n; omega, y2⟩
  have e1 : (am_push h n cl).1 - h0.1 = h.1 - h0.1 + 1 := by show h.1 + 1 - h0.1 = _; omega
  have e2 : (am_push h n cl).2.1 - h0.2.1 = h.2.1 - h0.2.1 + n := by show h.2.1 + n - h0.2.1 = _; omega
  rw [e1, e2] at key
  rw [hq, ← hal]
  exact key
/-- behind a call -/
theorem am_cont {pc : Nat} {st0 rest st1 : List Value} {k' : Nat} {h' : am_H} {r' : Option Int32} (A : am_act L xs k h0 r h1 l g p e R s m args below meth c Q) (hW : am_W g h H) (hS : va_S (am_A g) s.heap H locs) (hz : am_sz k h0 h)
    (hr : va_Run p l e R s m args below meth c H locs (h.1 - h0.1) (h.2.1 - h0.2.1) (tm_mc k') (tm_ms k') (F0 m pc lr st0) rest (fun st oc t => oc = .returned (r'.map Value.int) ∧ am_W g h' t.heap ∧ va_F (am_A g) st t) (am_A g))
    (e1 : h'.1 = h.1 + tm_mc k') (e2 : h'.2.1 = h.2.1 + tm_ms k') (b1 : h'.1 ≤ h0.1 + tm_mc k) (b2 : h'.2.1 ≤ h0.2.1 + tm_ms k) (hst : (r'.map Value.int).toList ++ rest = st1.map (am_v g)) (hL : am_LR g lr (tm_ml k) ls') (K : am_wa L xs k h0 r h1 (pc + 3) ls' st1 h') :
    W p l e R s m args below meth c H locs (h.1 - h0.1) (h.2.1 - h0.2.1) Q (F0 m pc lr st0) := by
  intro T hT X
  obtain ⟨v, st₀, t, T', LL, g0, X', hL', q1, q2, ⟨hv, hw, hzz, hk⟩, st⟩ := hr T hT X
  cases hv
  rw [g0] at hzz hk
  obtain ⟨⟨z1, z2⟩, z3, z4⟩ := hz
  have c1 : h.1 - h0.1 + tm_mc k' = h'.1 - h0.1 := by omega
  have c2 : h.2.1 - h0.2.1 + tm_ms k' = h'.2.1 - h0.2.1 := by omega
  rw [c1, c2] at X'
  have key := K l g p e R s m args below meth c Q A T'.heap (locs ++ LL) lr (by rw [q1]; exact hw) ⟨Nat.le_trans hS.1 (by rw [q1]; exact hzz), fun q a b => by rw [q1, hk q (Nat.lt_of_lt_of_le a hS.1) b]; exact hS.2.1 q a b, fun q hq => by
    rcases List.mem_append.mp hq with z | z
    · exact hS.2.2 q z
    · exact hL' q z⟩ hL ⟨⟨by omega, b1⟩, by omega, b2⟩
  obtain ⟨t2, a1, b3⟩ := key T' rfl X'
  rw [← hst] at a1
  exact ⟨t2, st t2 a1, b3⟩
end AN
/-- a method's contract out of its run -/
theorem am_ok_of {L : Nat} {xs : Nat → Int32} {k : Nat} {args : List Value} {h h' : am_H} {r : Option Int32} {ls : List Value} (hy : plainName (tm_y k).cls = true) (hret : tm_ret k = some (tm_rt k) ∨ tm_ret k = none) (hrr : r = none ↔ tm_ret k = none) (hin : tm_kd k = 2 → (tm_y k).name = "<init>")
    (hre : am_recv k args h) (e1 : h'.1 = h.1 + tm_mc k) (e2 : h'.2.1 = h.2.1 + tm_ms k) (hen : ∀ (g : am_G), g.2.2.2.2.category = 1 → (lg_sl (args.map (am_v g))).length ≤ tm_ml k ∧ ∀ q ∈ am_as g 0 ls, q ∈ lv_args 0 (args.map (am_v g)))
    (hw : am_wa L xs k h r h' 0 ls [] h) : am_ok L xs k args h r h' := by
  refine ⟨⟨hre, e1, e2⟩, fun l g hb => ?_⟩
  refine Met.ofW (cc := tm_b k) (maxL := tm_ml k) (ret := tm_ret k) hy rfl ?_
  intro p e s m args' below meth c s₁ B hml hv
  obtain ⟨rfl, hW, hX⟩ := hv
  obtain ⟨hfit, hsub⟩ := hen g hX.2.2.2.2.2.2.2.2.2
  have hts := atoms_spec (ws := tm_ws k) B.pre
  have hown : s.vm.findClass (tm_y k).cls = some m.cls := findClass_of_methodNamed B.named
  have hlocks := B.notSynchronized
  have hl := lv_entry (args.map (am_v g)) (n := tm_ml k) hfit
  rw [lg_entry_eq]
  generalize (lg_sl (args.map (am_v g)) ++ List.replicate (tm_ml k - (lg_sl (args.map (am_v g))).length) Slot.unset).toArray = lr at hl ⊢
  have hr := B.returns
  have A : am_act L xs k h r h' l g p e (headSpec (tm_ws k) (tm_rm k)).room s m (args.map (am_v g)).toArray below meth c (MQ below (fun _ st oc t => oc = .returned (r.map Value.int) ∧ am_W g h' t.heap ∧ va_F (am_A g) st t) (args.map (am_v g)).toArray s (tm_mc k) (tm_ms k) (am_A g)) := by
    refine ⟨B.exec, B.bytes, hml, hown, fun w hw => hts w (List.mem_cons_of_mem _ hw), hX, ⟨hW.1.1, by omega⟩, ⟨Nat.le_refl _, Nat.le_refl _, Nat.le_refl _, Nat.le_refl _⟩, fun z => (name_of_methodNamed B.named B.method).1.trans (hin z), ?_⟩
    intro H locs lr pc hW1 hS1
    have c1 : h'.1 - h.1 = tm_mc k := by omega
    have c2 : h'.2.1 - h.2.1 = tm_ms k := by omega
    rw [c1, c2]
    refine ⟨fun x hx hd hf => ?_, fun hx hd => ?_⟩
    · subst hx
      rcases hret with z | z
      · exact W.zret (ty := tm_rt k) B.exec B.bytes (hr.trans z) hf (fun t ht hWm => ⟨rfl, by rw [ht]; exact hW1, hS1.F ht⟩) hS1.2.2 hd
      · exact absurd (hrr.mpr z) (by simp)
    · subst hx
      exact W.vret B.exec B.bytes (hr.trans (hrr.mp rfl)) (fun t ht hWm => ⟨rfl, by rw [ht]; exact hW1, hS1.F ht⟩) hS1.2.2 hd
  have key := hw l g p e _ s m _ below meth c _ A s.heap [] lr hW va_S.rf ⟨⟨hl.1, hl.2.1, fun q hq => hl.2.2 q (hsub q hq)⟩, hX.2.2.2.2.2.2.2.2.2⟩ ⟨⟨Nat.le_refl _, by omega⟩, Nat.le_refl _, by omega⟩
  rw [Nat.sub_self, Nat.sub_self] at key
  exact key
