/-! THE REFERENCE, NEW -/
def szq : Nat → Int32 := (upd (upd (upd (fun _ => 0) 0 (-1)) 1 (-1)) 2 (-1))
def wdq : Nat → Int32 := (upd (upd (upd (upd (upd (upd (upd (upd (upd (upd (upd (upd (upd (upd (upd (upd (upd (upd (upd (upd (fun _ => 0) 0 (109)) 1 (101)) 2 (115)) 3 (104)) 4 (0)) 5 (108)) 6 (105)) 7 (110)) 8 (107)) 9 (0)) 10 (119)) 11 (97)) 12 (110)) 13 (116)) 14 (0)) 15 (115)) 16 (104)) 17 (97)) 18 (114)) 19 (101))
theorem wdq_ok : ∀ i, i < 20 → wdq i = wds.getD i 0 := by decide +kernel
def dS : sg_S := (fun _ => 0, fun k => if k = 9 then szq else if k = 17 then wdq else fun _ => 0)
section ND
variable {L : Nat} {xs : Nat → Int32} {h : am_H} {b : Nat}
theorem PB_ns {h : am_H} {b ci s n i : Nat} {fs : List Value} {l : List am_C} {g : Nat → Int32} {x : Int32} (hi : i < n) (hn : n < 2 ^ 31) : am_sI (PB h b ci fs s (l ++ [.inl (.int, n, .inl g)])) .int (b + 1 + l.length) (nI i) x = some (PB h b ci fs s (l ++ [.inl (.int, n, .inl (upd g i x))])) := by
  rw [PB_sI (j := l.length) (n := n) (g := g) (by simp) hi hn]
  congr 2
  simp
theorem ok_heap {k : Nat} {as : List Value} {r : Option Int32} {h1 h2 h3 : am_H} (e : h1 = h2) (H : am_ok L xs k as h2 r h3) : am_ok L xs k as h1 r h3 := by rw [e]; exact H
theorem mc_X5 : tm_mc m_X5_init = 10 ∧ tm_ms m_X5_init = 649 := by decide +kernel
theorem cl_n : (372 : Int32).toNatClampNeg = 372 ∧ (2 : Int32).toNatClampNeg = 2 ∧ (3 : Int32).toNatClampNeg = 3 ∧ (24 : Int32).toNatClampNeg = 24 ∧ (4 : Int32).toNatClampNeg = 4 ∧ (20 : Int32).toNatClampNeg = 20 := by decide +kernel
theorem ok_initD (e : h.1 = b) (hb : b + 11 < 2 ^ 31) : am_ok L xs m_X5_init [.ref b] (am_push h (am_df 5).length (.inr (5, am_df 5))) none (ob sgD (gr h (b + 11) (h.2.1 + 669)) b (anD dS 3 2 2 1)) := by
  rw [PB_start e]
  generalize hs : h.2.1 = s
  have m1 := mc_X5.1
  have m2 := mc_X5.2
  refine en_X5_init rfl (by show s + 669 = s + 20 + 649; omega) (ch_X5_init_0 ?_)
  simp only [cl_8, cl_200, cl_n.1, cl_n.2.1, cl_n.2.2.1, cl_n.2.2.2.1, cl_n.2.2.2.2.1, cl_n.2.2.2.2.2]
  refine ⟨⟨by decide +kernel, by decide⟩, PB_al (by simp [m1]) (by simp [m2, am_df] <;> omega), PB_new (by simp [am_df]) ?_⟩
  refine ⟨⟨by decide +kernel, by decide⟩, PB_al (by simp [m1]) (by simp [m2, am_df] <;> omega), PB_new (by simp [am_df]) ?_⟩
  refine ⟨⟨by decide +kernel, by decide⟩, PB_al (by simp [m1]) (by simp [m2, am_df] <;> omega), PB_new (by simp [am_df]) ?_⟩
  refine ⟨⟨by decide +kernel, by decide⟩, PB_al (by simp [m1]) (by simp [m2, am_df] <;> omega), PB_new (by simp [am_df]) ?_⟩
  refine ⟨⟨by decide +kernel, by decide⟩, PB_al (by simp [m1]) (by simp [m2, am_df] <;> omega), ?_⟩
  rw [PB_push]
  refine am_b_of (PB_ns (i := 0) (n := 3) (by omega) (by omega)) ?_
  refine am_b_of (PB_ns (i := 1) (n := 3) (by omega) (by omega)) ?_
  refine am_b_of (PB_ns (i := 2) (n := 3) (by omega) (by omega)) ?_
  refine am_b_of (PB_pF (by simp [am_df])) ?_
  refine ⟨⟨by decide +kernel, by decide⟩, PB_al (by simp [m1]) (by simp [m2, am_df] <;> omega), PB_new (by simp [am_df]) ?_⟩
  refine ⟨⟨by decide +kernel, by decide⟩, PB_al (by simp [m1]) (by simp [m2, am_df] <;> omega), PB_new (by simp [am_df]) ?_⟩
  refine ⟨⟨by decide +kernel, by decide⟩, PB_al (by simp [m1]) (by simp [m2, am_df] <;> omega), ?_⟩
  rw [PB_push]
  refine am_b_of (PB_ns (i := 0) (n := 20) (by omega) (by omega)) ?_
  refine am_b_of (PB_ns (i := 1) (n := 20) (by omega) (by omega)) ?_
  refine am_b_of (PB_ns (i := 2) (n := 20) (by omega) (by omega)) ?_
  refine am_b_of (PB_ns (i := 3) (n := 20) (by omega) (by omega)) ?_
  refine am_b_of (PB_ns (i := 4) (n := 20) (by omega) (by omega)) ?_
  refine am_b_of (PB_ns (i := 5) (n := 20) (by omega) (by omega)) ?_
  refine am_b_of (PB_ns (i := 6) (n := 20) (by omega) (by omega)) ?_
  refine am_b_of (PB_ns (i := 7) (n := 20) (by omega) (by omega)) ?_
  refine am_b_of (PB_ns (i := 8) (n := 20) (by omega) (by omega)) ?_
  refine am_b_of (PB_ns (i := 9) (n := 20) (by omega) (by omega)) ?_
  refine am_b_of (PB_ns (i := 10) (n := 20) (by omega) (by omega)) ?_
  refine am_b_of (PB_ns (i := 11) (n := 20) (by omega) (by omega)) ?_
  refine am_b_of (PB_ns (i := 12) (n := 20) (by omega) (by omega)) ?_
  refine am_b_of (PB_ns (i := 13) (n := 20) (by omega) (by omega)) ?_
  refine am_b_of (PB_ns (i := 14) (n := 20) (by omega) (by omega)) ?_
  refine am_b_of (PB_ns (i := 15) (n := 20) (by omega) (by omega)) ?_
  refine am_b_of (PB_ns (i := 16) (n := 20) (by omega) (by omega)) ?_
  refine am_b_of (PB_ns (i := 17) (n := 20) (by omega) (by omega)) ?_
  refine am_b_of (PB_ns (i := 18) (n := 20) (by omega) (by omega)) ?_
  refine am_b_of (PB_ns (i := 19) (n := 20) (by omega) (by omega)) ?_
  refine am_b_of (PB_pF (by simp [am_df])) ?_
  refine ⟨⟨by decide +kernel, by decide⟩, PB_al (by simp [m1]) (by simp [m2, am_df] <;> omega), PB_new (by simp [am_df]) ?_⟩
  refine ⟨⟨by decide +kernel, by decide⟩, PB_al (by simp [m1]) (by simp [m2, am_df] <;> omega), PB_new (by simp [am_df]) ?_⟩
  have call := ok_anew (L := L) (xs := xs) (h := gr h (b + 11) (s + 669)) (c := b) (D := dS) (x0 := 3) (x1 := 2) (x2 := 2) (x3 := 1) (by show b + 10 < b + 11; omega)
  refine ⟨_, ok_heap ?_ call, by first | rfl | trivial, rfl⟩
  refine (PB_ob (σ := sgD) (S := dS) (n := b + 11) rfl rfl (fun j hj => ?_) rfl).trans (congrArg (fun z => ob sgD (gr h (b + 11) z) b dS) (by simp [am_df]))
  have hj : j < 10 := hj
  have : j = 0 ∨ j = 1 ∨ j = 2 ∨ j = 3 ∨ j = 4 ∨ j = 5 ∨ j = 6 ∨ j = 7 ∨ j = 8 ∨ j = 9 := by omega
  rcases this with rfl | rfl | rfl | rfl | rfl | rfl | rfl | rfl | rfl | rfl <;> rfl
end ND
