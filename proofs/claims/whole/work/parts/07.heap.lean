/-! THE INSTRUCTIONS THAT LOOK INTO THE HEAP, AND CALLS -/
theorem am_ing {ci : Nat} (hi : ci < 6) : ∀ w ∈ u_ws (am_cn ci) (am_T ci) (am_N ci), w ∈ am_gt := by
  intro w hw
  refine am_gt_of (am_inn ci hi w hw) ?_
  obtain ⟨j, -, rfl⟩ := List.mem_map.mp hw
  unfold u_lay
  split <;> rfl
theorem am_fld_inv {h : am_H} {a ci j : Nat} {v : Value} (e : am_fld h a ci j = some v) : ∃ fs, am_look h a = some (.inr (ci, fs)) ∧ fs[j]? = some v := by
  unfold am_fld at e
  split at e
  · rename_i c fs he
    split at e
    · rename_i hc
      subst hc
      exact ⟨fs, he, e⟩
    · cases e
  · cases e
theorem am_gI_inv {h : am_H} {a ci j : Nat} {x : Int32} (e : am_gI h a ci j = some x) : ∃ fs, am_look h a = some (.inr (ci, fs)) ∧ fs[j]? = some (.int x) := by
  unfold am_gI at e
  split at e
  · rename_i y he
    cases e
    exact am_fld_inv he
  · cases e
theorem am_gR_inv {h : am_H} {a ci j : Nat} {x : Nat} (e : am_gR h a ci j = some x) : ∃ fs, am_look h a = some (.inr (ci, fs)) ∧ fs[j]? = some (.ref x) := by
  unfold am_gR at e
  split at e
  · rename_i y he
    cases e
    exact am_fld_inv he
  · cases e
theorem am_pF_inv {h h' : am_H} {a ci j : Nat} {v : Value} (e : am_pF h a ci j v = some h') : ∃ fs, am_look h a = some (.inr (ci, fs)) ∧ j < fs.length ∧ h' = am_put h a (.inr (ci, fs.set j v)) := by
  unfold am_pF at e
  split at e
  · rename_i c fs he
    split at e
    · rename_i hc
      obtain ⟨rfl, hj⟩ := hc
      cases e
      exact ⟨fs, he, hj, rfl⟩
    · cases e
  · cases e
theorem am_ii_inv {h : am_H} {a n : Nat} {ty : FieldType} {f : Nat → Int32} (e : am_ii h a = some (ty, n, f)) : am_look h a = some (.inl (ty, n, .inl f)) := by
  unfold am_ii at e
  split at e
  · rename_i t n' f' he
    cases e
    exact he
  · cases e
theorem am_rr_inv {h : am_H} {a n : Nat} {ty : FieldType} {f : Nat → Option Nat} (e : am_rr h a = some (ty, n, f)) : am_look h a = some (.inl (ty, n, .inr (.inr (.inr (.inr f))))) := by
  unfold am_rr at e
  split at e
  · rename_i t n' f' he
    cases e
    exact he
  · cases e
theorem am_lI_inv {h : am_H} {a : Nat} {ty : FieldType} {i x : Int32} (e : am_lI h ty a i = some x) : ∃ n f, am_look h a = some (.inl (ty, n, .inl f)) ∧ vp_in i n ∧ x = f i.toNatClampNeg := by
  unfold am_lI at e
  split at e
  · rename_i t n f he
    split at e
    · rename_i hc
      obtain ⟨rfl, hin⟩ := hc
      cases e
      exact ⟨n, f, am_ii_inv he, hin, rfl⟩
    · cases e
  · cases e
theorem am_sI_inv {h h' : am_H} {a : Nat} {ty : FieldType} {i x : Int32} (e : am_sI h ty a i x = some h') : ∃ n f, am_look h a = some (.inl (ty, n, .inl f)) ∧ vp_in i n ∧ h' = am_put h a (.inl (ty, n, .inl (upd f i.toNatClampNeg x))) := by
  unfold am_sI at e
  split at e
  · rename_i t n f he
    split at e
    · rename_i hc
      obtain ⟨rfl, hin⟩ := hc
      cases e
      exact ⟨n, f, am_ii_inv he, hin, rfl⟩
    · cases e
  · cases e
theorem am_lA_inv {h : am_H} {a x : Nat} {C : String} {i : Int32} (e : am_lA h C a i = some x) : ∃ n f, am_look h a = some (.inl (.object C, n, .inr (.inr (.inr (.inr f))))) ∧ vp_in i n ∧ f i.toNatClampNeg = some x := by
  unfold am_lA at e
  split at e
  · rename_i t n f he
    split at e
    · rename_i hc
      obtain ⟨rfl, hin⟩ := hc
      exact ⟨n, f, am_rr_inv he, hin, e⟩
    · cases e
  · cases e
theorem am_cls_inv {h : am_H} {a c : Nat} (e : am_cls h a = some c) : ∃ fs, am_look h a = some (.inr (c, fs)) := by
  unfold am_cls at e
  split at e
  · rename_i c' fs he
    cases e
    exact ⟨fs, he⟩
  · cases e
theorem am_sA_inv {h h' : am_H} {a v ci : Nat} {C : String} {i : Int32} (e : am_sA h C ci a i v = some h') : ∃ n f fs, am_look h a = some (.inl (.object C, n, .inr (.inr (.inr (.inr f))))) ∧ am_look h v = some (.inr (ci, fs)) ∧ vp_in i n ∧ h' = am_put h a (.inl (.object C, n, .inr (.inr (.inr (.inr (va_up f i.toNatClampNeg (some v))))))) := by
  unfold am_sA at e
  split at e
  · rename_i t n f he
    split at e
    · rename_i hc
      obtain ⟨⟨rfl, hv⟩, hin⟩ := hc
      obtain ⟨fs, hfs⟩ := am_cls_inv hv
      cases e
      exact ⟨n, f, fs, am_rr_inv he, hfs, hin, rfl⟩
    · cases e
  · cases e
theorem am_len_inv {h : am_H} {a : Nat} {x : Int32} (e : am_len h a = some x) : ∃ y, am_look h a = some (.inl (.int, y)) ∧ x = nI y.1 := by
  unfold am_len at e
  split at e
  · rename_i y he
    cases e
    exact ⟨y, he, rfl⟩
  · cases e
theorem am_cp_inv {h h' : am_H} {a0 a : Nat} {sp dp n : Int32} (e : am_cp h a0 sp a dp n = some h') : ∃ n0 n1 f f1, am_look h a0 = some (.inl (.int, n0, .inl f)) ∧ am_look h a = some (.inl (.int, n1, .inl f1)) ∧ (¬ sp < 0 ∧ ¬ dp < 0 ∧ ¬ n < 0 ∧ sp.toNatClampNeg + n.toNatClampNeg ≤ n0 ∧ dp.toNatClampNeg + n.toNatClampNeg ≤ n1) ∧ h' = am_put h a (.inl (.int, n1, .inl (va_cpy f f1 sp.toNatClampNeg dp.toNatClampNeg n.toNatClampNeg))) := by
  unfold am_cp at e
  split at e
  · rename_i t0 n0 f t1 n1 f1 he0 he1
    split at e
    · rename_i hc
      obtain ⟨⟨rfl, rfl⟩, hh⟩ := hc
      cases e
      exact ⟨n0, n1, f, f1, am_ii_inv he0, am_ii_inv he1, hh, rfl⟩
    · cases e
  · cases e
theorem am_av_rf (g : am_G) (x : Option Nat) : va_rf (x.map (am_al g)) = match x with | some y => am_v g (.ref y) | none => .null := by
  cases x <;> rfl
theorem am_al_sp (g : am_G) (j : Nat) : am_al g (1000000 + j) = g.2.2.2.1 j := by
  rw [am_al, if_neg (by omega), show 1000000 + j - 1000000 = j by omega]
section SH
variable {L : Nat} {xs : Nat → Int32} {k : Nat} {h0 h1 h : am_H} {r : Option Int32} {pc : Nat} {ls st : List Value}
theorem sn_get {index a ci j : Nat} {fs : List Value} {v : Value} (hi : ci < 6) (hj : j < am_N ci) (hw : Cond.fieldLink (tm_y k).cls index (am_cn ci) (am_T ci j).2.1 (am_T ci j).2.2.1 ∈ am_gt) (hT : (am_T ci j).1 = am_cn ci) (hd : decode (tm_b k) pc = .ok (.getfield index, 3)) (he : am_look h a = some (.inr (ci, fs))) (hv : fs[j]? = some v) (K : am_wa L xs k h0 r h1 (pc + 3) ls (v :: st) h) : am_wa L xs k h0 r h1 pc ls (.ref a :: st) h := by
  intro l g p e R s m args below meth c Q A H locs lr hW hS hL hz
  exact va_get (D := g.1) (C := am_cn ci) (T := am_T ci) (N := am_N ci) (ref := am_cn ci) A.1 A.2.1 A.2.2.2.2.1 (am_ing hi) A.2.2.2.1 A.2.2.2.2.2.1.1 hW.2 a (fs := fs.map (am_v g)) (am_row hW he) (am_cl_at ci hi) j hj (A.2.2.2.2.1 _ hw) (fun x hx => by rw [hT] at hx; exact hx) (v := am_v g v) (by rw [List.getElem?_map, hv]; rfl) hd (K l g p e R s m args below meth c Q A H locs lr hW hS hL hz)
theorem sn_put {index a ci j : Nat} {fs : List Value} {v : Value} (hi : ci < 6) (hj : j < am_N ci) (hw : Cond.fieldLink (tm_y k).cls index (am_cn ci) (am_T ci j).2.1 (am_T ci j).2.2.1 ∈ am_gt) (hT : (am_T ci j).1 = am_cn ci) (hfin : (am_T ci j).2.2.2 = false ∨ (tm_kd k = 2 ∧ (tm_y k).cls = am_cn ci)) (hn : ∀ g, narrow (am_ty ci j) (am_v g v) = am_v g v ∧ fits (am_ty ci j) (am_v g v) = true) (hd : decode (tm_b k) pc = .ok (.putfield index, 3)) (he : am_look h a = some (.inr (ci, fs))) (hl : j < fs.length) (K : am_wa L xs k h0 r h1 (pc + 3) ls st (am_put h a (.inr (ci, fs.set j v)))) : am_wa L xs k h0 r h1 pc ls (v :: .ref a :: st) h := by
  intro l g p e R s m args below meth c Q A H locs lr hW hS hL hz
  have ha := (am_look_lt he).1
  have em : (fs.map (am_v g)).set j (am_v g v) = (fs.set j v).map (am_v g) := by rw [List.map_set]
  by_cases hf : (am_T ci j).2.2.2 = false
  · refine va_put (D := g.1) (C := am_cn ci) (T := am_T ci) (N := am_N ci) (ref := am_cn ci) (ty := am_ty ci j) (v := am_v g v) A.1 A.2.1 A.2.2.2.2.1 (am_ing hi) (am_ty ci) (am_tyk ci hi) (am_nm ci hi) A.2.2.2.1 A.2.2.2.2.2.1.1 hW.2 (am_D g h) (am_S_here hS) a (fs := fs.map (am_v g)) (am_row hW he) (am_cl_at ci hi) j hj (A.2.2.2.2.1 _ hw) (fun x hx => by rw [hT] at hx; exact hx) hf (am_tyk ci hi j hj) (hn g).1 (hn g).2 (by rw [List.length_map]; exact hl) hd (fun H1 locs1 hP1 _ hS1 => ?_)
    rw [em] at hP1
    exact am_next A hW hS hz ha K hL hP1 hS1
  · obtain ⟨hk2, hown⟩ := hfin.resolve_left hf
    refine va_putF (D := g.1) (C := am_cn ci) (T := am_T ci) (N := am_N ci) (ref := am_cn ci) (ty := am_ty ci j) (v := am_v g v) A.1 A.2.1 A.2.2.2.2.1 (am_ing hi) (am_ty ci) (am_tyk ci hi) (am_nm ci hi) A.2.2.2.1 A.2.2.2.2.2.1.1 hW.2 (am_D g h) (am_S_here hS) a (fs := fs.map (am_v g)) (am_row hW he) (am_cl_at ci hi) j hj (A.2.2.2.2.1 _ hw) (fun x hx => by rw [hT] at hx; exact hx) (by simpa using hf) (A.2.2.2.2.2.2.2.2.1 hk2) (hT.trans hown.symm) (am_tyk ci hi j hj) (hn g).1 (hn g).2 (by rw [List.length_map]; exact hl) hd (fun H1 locs1 hP1 _ hS1 => ?_)
    rw [em] at hP1
    exact am_next A hW hS hz ha K hL hP1 hS1
theorem sn_getsv {index j : Nat} (hj : j < 4) (hw : Cond.fieldLink (tm_y k).cls index "java/lang/String" "value" "[B" ∈ am_gt) (hd : decode (tm_b k) pc = .ok (.getfield index, 3)) (K : am_wa L xs k h0 r h1 (pc + 3) ls (.ref (1000000 + (11 + j)) :: st) h) : am_wa L xs k h0 r h1 pc ls (.ref (1000000 + (1 + j)) :: st) h := by
  intro l g p e R s m args below meth c Q A H locs lr hW hS hL hz
  have q := K l g p e R s m args below meth c Q A H locs lr hW hS hL hz
  have z := (A.2.2.2.2.2.1.2.2.2.2.2.1.1 j hj).2.2.1
  rw [List.map_cons, am_v_ref, am_al_sp] at q ⊢
  exact vk_getf A.1 A.2.1 z hS A.2.2.2.1 (A.2.2.2.2.1 _ hw) (fun _ x => x) hd q
theorem sn_getsc {index j : Nat} (hj : j < 4) (hw : Cond.fieldLink (tm_y k).cls index "java/lang/String" "coder" "B" ∈ am_gt) (hd : decode (tm_b k) pc = .ok (.getfield index, 3)) (K : am_wa L xs k h0 r h1 (pc + 3) ls (.int 0 :: st) h) : am_wa L xs k h0 r h1 pc ls (.ref (1000000 + (1 + j)) :: st) h := by
  intro l g p e R s m args below meth c Q A H locs lr hW hS hL hz
  have q := K l g p e R s m args below meth c Q A H locs lr hW hS hL hz
  have z := (A.2.2.2.2.2.1.2.2.2.2.2.1.1 j hj).2.1
  rw [List.map_cons, am_v_ref, am_al_sp]
  exact vk_getf A.1 A.2.1 z hS A.2.2.2.1 (A.2.2.2.2.1 _ hw) (fun _ x => x) hd q
theorem sn_gets0 {index : Nat} (hw : Cond.fieldLink (tm_y k).cls index "java/lang/String" "COMPACT_STRINGS" "Z" ∈ am_gt) (hd : decode (tm_b k) pc = .ok (.getstatic index, 3)) (K : am_wa L xs k h0 r h1 (pc + 3) ls (.int 1 :: st) h) : am_wa L xs k h0 r h1 pc ls st h := by
  intro l g p e R s m args below meth c Q A H locs lr hW hS hL hz
  exact va_gets A.1 A.2.1 A.2.2.2.2.2.1.2.2.2.2.2.2.1 hS A.2.2.2.1 (A.2.2.2.2.1 _ hw) (fun _ x => x) hd (K l g p e R s m args below meth c Q A H locs lr hW hS hL hz)
theorem sn_gets1 {index : Nat} (hw : Cond.fieldLink (tm_y k).cls index "jdk/internal/util/Preconditions" "SIOOBE_FORMATTER" "Ljava/util/function/BiFunction;" ∈ am_gt) (hd : decode (tm_b k) pc = .ok (.getstatic index, 3)) (K : am_wa L xs k h0 r h1 (pc + 3) ls (.retAddr 0 :: st) h) : am_wa L xs k h0 r h1 pc ls st h := by
  intro l g p e R s m args below meth c Q A H locs lr hW hS hL hz
  exact va_gets A.1 A.2.1 A.2.2.2.2.2.1.2.2.2.2.2.2.2.1 hS A.2.2.2.1 (A.2.2.2.2.1 _ hw) (fun _ x => x) hd (K l g p e R s m args below meth c Q A H locs lr hW hS hL hz)
theorem sn_iald {a : Nat} {i x : Int32} (hd : decode (tm_b k) pc = .ok (.iaload, 1)) (e : am_lI h .int a i = some x) (K : am_wa L xs k h0 r h1 (pc + 1) ls (.int x :: st) h) : am_wa L xs k h0 r h1 pc ls (.int i :: .ref a :: st) h := by
  obtain ⟨n, f, he, hin, rfl⟩ := am_lI_inv e
  intro l g p e R s m args below meth c Q A H locs lr hW hS hL hz
  exact va_iald A.1 A.2.1 A.2.2.2.2.2.1.1 hW.2 a 0 (am_row hW he) rfl hin hd (K l g p e R s m args below meth c Q A H locs lr hW hS hL hz)
theorem sn_zald {a : Nat} {i x : Int32} (hd : decode (tm_b k) pc = .ok (.baload, 1)) (e : am_lI h .boolean a i = some x) (K : am_wa L xs k h0 r h1 (pc + 1) ls (.int x :: st) h) : am_wa L xs k h0 r h1 pc ls (.int i :: .ref a :: st) h := by
  obtain ⟨n, f, he, hin, rfl⟩ := am_lI_inv e
  intro l g p e R s m args below meth c Q A H locs lr hW hS hL hz
  exact va_zald A.1 A.2.1 A.2.2.2.2.2.1.1 hW.2 a 1 (am_row hW he) rfl hin hd (K l g p e R s m args below meth c Q A H locs lr hW hS hL hz)
theorem sn_scr {i : Int32} (hd : decode (tm_b k) pc = .ok (.iaload, 1)) (hin : ¬ (i < 0 ∨ L ≤ i.toNatClampNeg)) (K : am_wa L xs k h0 r h1 (pc + 1) ls (.int (xs i.toNatClampNeg) :: st) h) : am_wa L xs k h0 r h1 pc ls (.int i :: .ref 1000000 :: st) h := by
  intro l g p e R s m args below meth c Q A H locs lr hW hS hL hz
  have x := A.2.2.2.2.2.1.2.2.2.1
  have y := A.2.2.2.2.2.1.2.2.2.2.2.2.2.2.1
  exact va_sld A.1 A.2.1 (b := g.2.2.2.1 0) x.1 (by omega) (by show ¬ g.2.2.1 ≤ _; omega) hS hin hd (K l g p e R s m args below meth c Q A H locs lr hW hS hL hz)
theorem sn_scl (hd : decode (tm_b k) pc = .ok (.arraylength, 1)) (K : am_wa L xs k h0 r h1 (pc + 1) ls (.int (nI L) :: st) h) : am_wa L xs k h0 r h1 pc ls (.ref 1000000 :: st) h := by
  intro l g p e R s m args below meth c Q A H locs lr hW hS hL hz
  have x := A.2.2.2.2.2.1.2.2.2.1
  have y := A.2.2.2.2.2.1.2.2.2.2.2.2.2.2.1
  exact va_slen A.1 A.2.1 (b := g.2.2.2.1 0) x.1 (by omega) (by show ¬ g.2.2.1 ≤ _; omega) hS hd (K l g p e R s m args below meth c Q A H locs lr hW hS hL hz)
theorem sn_bald {j : Nat} {i : Int32} (hj : j < 4) (hd : decode (tm_b k) pc = .ok (.baload, 1)) (hin : ¬ (i < 0 ∨ am_sl j ≤ i.toNatClampNeg)) (K : am_wa L xs k h0 r h1 (pc + 1) ls (.int (am_sb j i.toNatClampNeg) :: st) h) : am_wa L xs k h0 r h1 pc ls (.int i :: .ref (1000000 + (11 + j)) :: st) h := by
  intro l g p e R s m args below meth c Q A H locs lr hW hS hL hz
  have q := K l g p e R s m args below meth c Q A H locs lr hW hS hL hz
  have z := (A.2.2.2.2.2.1.2.2.2.2.2.1.1 j hj).2.2.2
  rw [List.map_cons, List.map_cons, am_v_ref, am_al_sp]
  exact va_tb A.1 A.2.1 z hS hin rfl hd q
theorem sn_blen {j : Nat} (hj : j < 4) (hd : decode (tm_b k) pc = .ok (.arraylength, 1)) (K : am_wa L xs k h0 r h1 (pc + 1) ls (.int (nI (am_sl j)) :: st) h) : am_wa L xs k h0 r h1 pc ls (.ref (1000000 + (11 + j)) :: st) h := by
  intro l g p e R s m args below meth c Q A H locs lr hW hS hL hz
  have q := K l g p e R s m args below meth c Q A H locs lr hW hS hL hz
  have z := (A.2.2.2.2.2.1.2.2.2.2.2.1.1 j hj).2.2.2
  rw [List.map_cons, am_v_ref, am_al_sp]
  exact va_tlen A.1 A.2.1 z hS rfl hd q
theorem sn_alen {a : Nat} {x : Int32} (hd : decode (tm_b k) pc = .ok (.arraylength, 1)) (e : am_len h a = some x) (K : am_wa L xs k h0 r h1 (pc + 1) ls (.int x :: st) h) : am_wa L xs k h0 r h1 pc ls (.ref a :: st) h := by
  obtain ⟨y, he, rfl⟩ := am_len_inv e
  intro l g p e R s m args below meth c Q A H locs lr hW hS hL hz
  have ey : (am_av g y).1 = y.1 := by
    obtain ⟨n, f | f | f | f | f⟩ := y <;> rfl
  exact va_alen A.1 A.2.1 A.2.2.2.2.2.1.1 hW.2 a 0 (am_row hW he) rfl (v := nI y.1) (by rw [ey]; rfl) hd (K l g p e R s m args below meth c Q A H locs lr hW hS hL hz)
theorem sn_aald {a ci x : Nat} {i : Int32} (hi : ci = 0 ∨ ci = 2) (hd : decode (tm_b k) pc = .ok (.aaload, 1)) (e : am_lA h (am_cn ci) a i = some x) (K : am_wa L xs k h0 r h1 (pc + 1) ls (.ref x :: st) h) : am_wa L xs k h0 r h1 pc ls (.int i :: .ref a :: st) h := by
  obtain ⟨n, f, he, hin, hx⟩ := am_lA_inv e
  intro l g p e R s m args below meth c Q A H locs lr hW hS hL hz
  have q := K l g p e R s m args below meth c Q A H locs lr hW hS hL hz
  have q2 : W p l e R s m args below meth c H locs (h.1 - h0.1) (h.2.1 - h0.2.1) Q (F0 m (pc + 1) lr (va_rf ((f i.toNatClampNeg).map (am_al g)) :: st.map (am_v g))) := by
    rw [hx]
    exact q
  rcases hi with rfl | rfl
  · exact va_aldq (f := fun j => (f j).map (am_al g)) A.1 A.2.1 A.2.2.2.2.2.1.1 hW.2 a 2 (am_row hW he) rfl hin hd q2
  · exact va_aldq (f := fun j => (f j).map (am_al g)) A.1 A.2.1 A.2.2.2.2.2.1.1 hW.2 a 3 (am_row hW he) rfl hin hd q2
theorem sn_iast {a : Nat} {i x : Int32} {h' : am_H} (hd : decode (tm_b k) pc = .ok (.iastore, 1)) (e : am_sI h .int a i x = some h') (K : am_wa L xs k h0 r h1 (pc + 1) ls st h') : am_wa L xs k h0 r h1 pc ls (.int x :: .int i :: .ref a :: st) h := by
  obtain ⟨n, f, he, hin, rfl⟩ := am_sI_inv e
  intro l g p e R s m args below meth c Q A H locs lr hW hS hL hz
  exact va_iast A.1 A.2.1 A.2.2.2.2.2.1.1 hW.2 (am_D g h) (am_S_here hS) a 0 (am_row hW he) rfl hin hd (fun H1 locs1 hP1 _ hS1 => am_next A hW hS hz (am_look_lt he).1 K hL hP1 hS1)
theorem am_nar_z {x : Int32} (hx : x = 0 ∨ x = 1) : vp_nar .boolean x = x := by
  rcases hx with rfl | rfl <;> decide +kernel
theorem sn_zast {a : Nat} {i x : Int32} {h' : am_H} (hx : x = 0 ∨ x = 1) (hd : decode (tm_b k) pc = .ok (.bastore, 1)) (e : am_sI h .boolean a i x = some h') (K : am_wa L xs k h0 r h1 (pc + 1) ls st h') : am_wa L xs k h0 r h1 pc ls (.int x :: .int i :: .ref a :: st) h := by
  obtain ⟨n, f, he, hin, rfl⟩ := am_sI_inv e
  intro l g p e R s m args below meth c Q A H locs lr hW hS hL hz
  exact va_zast A.1 A.2.1 A.2.2.2.2.2.1.1 hW.2 (am_D g h) (am_S_here hS) a 1 (am_row hW he) rfl hin hd (fun H1 locs1 hP1 _ hS1 => by
    rw [am_nar_z hx] at hP1
    exact am_next A hW hS hz (am_look_lt he).1 K hL hP1 hS1)
theorem sn_aast {a v ci : Nat} {i : Int32} {h' : am_H} (hi : ci = 0 ∨ ci = 2) (hd : decode (tm_b k) pc = .ok (.aastore, 1)) (e : am_sA h (am_cn ci) ci a i v = some h') (K : am_wa L xs k h0 r h1 (pc + 1) ls st h') : am_wa L xs k h0 r h1 pc ls (.ref v :: .int i :: .ref a :: st) h := by
  obtain ⟨n, f, fs, he, hv, hin, rfl⟩ := am_sA_inv e
  intro l g p e R s m args below meth c Q A H locs lr hW hS hL hz
  have eu : (fun j => (va_up f i.toNatClampNeg (some v) j).map (am_al g)) = va_up (fun j => (f j).map (am_al g)) i.toNatClampNeg (some (am_al g v)) := by
    funext j
    unfold va_up
    by_cases z : j = i.toNatClampNeg
    · simp [z]
    · simp [z]
  have key : ∀ (H1 : Heap) (locs1 : List Loc), va_P g.1 vwCl ((am_ws g h).set a (am_al g a, .inl (g.2.1 (.object (am_cn ci)), n, .inr (.inr (.inr (.inr (va_up (fun j => (f j).map (am_al g)) i.toNatClampNeg (some (am_al g v)))))))) ) H1 → va_S (am_A g) H H1 locs1 → W p l e R s m args below meth c H1 locs1 (h.1 - h0.1) (h.2.1 - h0.2.1) Q (F0 m (pc + 1) lr (st.map (am_v g))) := by
    intro H1 locs1 hP1 hS1
    rw [← eu] at hP1
    exact am_next A hW hS hz (am_look_lt he).1 K hL hP1 hS1
  rcases hi with rfl | rfl
  · exact va_astq (f := fun j => (f j).map (am_al g)) (r := (RX0, TX0, 11)) (vs := fs.map (am_v g)) A.1 A.2.1 A.2.2.2.2.2.1.1 hW.2 (am_D g h) (am_S_here hS) a 2 v 0 (am_row hW he) rfl (am_row hW hv) rfl hin hd (fun H1 locs1 hP1 _ hS1 => key H1 locs1 hP1 hS1)
  · exact va_astq (f := fun j => (f j).map (am_al g)) (r := (RX2, TX2, 3)) (vs := fs.map (am_v g)) A.1 A.2.1 A.2.2.2.2.2.1.1 hW.2 (am_D g h) (am_S_here hS) a 3 v 2 (am_row hW he) rfl (am_row hW hv) rfl hin hd (fun H1 locs1 hP1 _ hS1 => key H1 locs1 hP1 hS1)
end SH
