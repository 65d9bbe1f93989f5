/-! MAKINGS AND CALLS -/
section SC
variable {L : Nat} {xs : Nat → Int32} {k : Nat} {h0 h1 h : am_H} {r : Option Int32} {pc : Nat} {ls st : List Value}
theorem am_RA_of {g : am_G} {U : State} (hK : va_K g.1 vwCl (am_tys g) U) {ty : FieldType} (i : Nat) (hi : (am_tys g)[i]? = some (g.2.1 ty, ty)) {cA : ClassId} (h : va_RA U cA ty) : cA = g.2.1 ty := by
  have q := (hK.2 i _ hi).2
  cases ty with
  | object C =>
    obtain ⟨_, _, -, -, -, z⟩ := h
    obtain ⟨_, _, -, -, -, y⟩ := q
    exact Option.some.inj (z.symm.trans y)
  | _ => exact Option.some.inj (h.symm.trans q)
theorem sn_newa {atype : ArrayType} {b : Nat} {n : Int32} (hb : newarray.typeOf atype = am_aty b ∧ (b = 0 ∨ b = 1)) (hd : decode (tm_b k) pc = .ok (.newarray atype, 2)) (hn : ¬ n < 0) (hs : n.toNatClampNeg ≤ 1000) (hz2 : h.1 + 1 ≤ h0.1 + tm_mc k ∧ h.2.1 + n.toNatClampNeg ≤ h0.2.1 + tm_ms k) (K : am_wa L xs k h0 r h1 (pc + 2) ls (.ref h.1 :: st) (am_push h n.toNatClampNeg (.inl (am_aty b, n.toNatClampNeg, .inl (fun _ => 0))))) : am_wa L xs k h0 r h1 pc ls (.int n :: st) h := by
  intro l g p e R s m args below meth c Q A H locs lr hW hS hL hz
  have hR := A.2.2.2.2.2.2.2.1
  have hz' := hz
  obtain ⟨⟨z1, z2⟩, z3, z4⟩ := hz'
  have hin : ∀ w ∈ am_ot, goodWord w = true → w ∈ am_gt := fun w hw hg => am_gt_of (am_ot_in w hw) hg
  have hby : n.toNatClampNeg * componentBytes (am_aty b) ≤ 536870912 := by
    have hc : componentBytes (am_aty b) ≤ 8 := by
      rcases hb.2 with rfl | rfl <;> decide +kernel
    have := Nat.mul_le_mul hs hc
    omega
  have hi : ∃ i : Nat, (am_tys g)[i]? = some (g.2.1 (am_aty b), am_aty b) := by
    rcases hb.2 with rfl | rfl
    · exact ⟨0, rfl⟩
    · exact ⟨1, rfl⟩
  obtain ⟨i, hi⟩ := hi
  refine va_newa (ty := am_aty b) (a0 := (n.toNatClampNeg, .inl (fun _ => 0))) A.1 A.2.1 ?_ hb.1 A.2.2.2.2.2.1.1 hW.2 (am_D g h) (am_S_here hS) (fun q hq => ?_) (fun cA => ?_) hn rfl hby (by omega) (by omega) hd (fun q cA H1 hK1 hP1 hD1 hS1 => ?_)
  · rcases hb.2 with rfl | rfl
    · rw [hb.1]; exact A.2.2.2.2.1 _ (hin _ (by decide +kernel) rfl)
    · rw [hb.1]; exact A.2.2.2.2.1 _ (hin _ (by decide +kernel) rfl)
  · show g.2.2.1 ≤ q
    have := hW.1.1
    omega
  · rcases hb.2 with rfl | rfl <;> rfl
  · have hq := (hK1.2 (am_tys g).length (cA, am_aty b) (by rw [List.getElem?_append_right (Nat.le_refl _), Nat.sub_self]; rfl)).2
    have e1 := am_RA_of A.2.2.2.2.2.1.1 i hi hq
    subst e1
    exact am_nextN (cl := .inl (am_aty b, n.toNatClampNeg, .inl (fun _ => 0))) A hW hS hz hz2 K hL hP1 hD1 hS1
theorem sn_anew {index ci : Nat} {n : Int32} (hc : ci = 0 ∨ ci = 2) (hw : Cond.classLink (tm_y k).cls index (am_cn ci) ∈ am_gt) (hd : decode (tm_b k) pc = .ok (.anewarray index, 3)) (hn : ¬ n < 0) (hs : n.toNatClampNeg ≤ 1000) (hz2 : h.1 + 1 ≤ h0.1 + tm_mc k ∧ h.2.1 + n.toNatClampNeg ≤ h0.2.1 + tm_ms k) (K : am_wa L xs k h0 r h1 (pc + 3) ls (.ref h.1 :: st) (am_push h n.toNatClampNeg (.inl (.object (am_cn ci), n.toNatClampNeg, .inr (.inr (.inr (.inr (fun _ => none)))))))) : am_wa L xs k h0 r h1 pc ls (.int n :: st) h := by
  intro l g p e R s m args below meth c Q A H locs lr hW hS hL hz
  have hR := A.2.2.2.2.2.2.2.1
  have hz' := hz
  obtain ⟨⟨z1, z2⟩, z3, z4⟩ := hz'
  have hi : ∃ i : Nat, (am_tys g)[i]? = some (g.2.1 (FieldType.object (am_cn ci)), FieldType.object (am_cn ci)) := by
    rcases hc with rfl | rfl
    · exact ⟨2, rfl⟩
    · exact ⟨3, rfl⟩
  obtain ⟨i, hi⟩ := hi
  refine va_newq (C := am_cn ci) A.1 A.2.1 A.2.2.2.1 (A.2.2.2.2.1 _ hw) ?_ A.2.2.2.2.2.1.1 hW.2 (am_D g h) (am_S_here hS) (fun q hq => ?_) hn rfl (by omega) (by omega) (by omega) hd (fun q cA H1 hK1 hP1 hD1 hS1 => ?_)
  · rcases hc with rfl | rfl
    · exact A.2.2.2.2.2.1.2.2.1.1
    · exact A.2.2.2.2.2.1.2.2.1.2
  · show g.2.2.1 ≤ q
    have := hW.1.1
    omega
  · have hq := (hK1.2 (am_tys g).length (cA, .object (am_cn ci)) (by rw [List.getElem?_append_right (Nat.le_refl _), Nat.sub_self]; rfl)).2
    have e1 := am_RA_of A.2.2.2.2.2.1.1 i hi hq
    subst e1
    exact am_nextN (cl := .inl (.object (am_cn ci), n.toNatClampNeg, .inr (.inr (.inr (.inr (fun _ => none)))))) A hW hS hz hz2 K hL hP1 hD1 hS1
theorem am_df_len : ∀ ci, ci < 6 → (am_df ci).length = am_N ci := by
  intro i hi
  match i, hi with
  | 0, _ => rfl
  | 1, _ => rfl
  | 2, _ => rfl
  | 3, _ => rfl
  | 4, _ => rfl
  | 5, _ => rfl
  | i + 6, h => omega
theorem am_df_v (g : am_G) : ∀ ci, ci < 6 → (am_df ci).map (am_v g) = am_df ci := by
  intro i hi
  match i, hi with
  | 0, _ => rfl
  | 1, _ => rfl
  | 2, _ => rfl
  | 3, _ => rfl
  | 4, _ => rfl
  | 5, _ => rfl
  | i + 6, h => omega
theorem am_df_at : ∀ ci, ci < 6 → ∀ j, j < am_N ci → defaultValue (am_ty ci j) = vp_V (am_df ci) j := by
  intro i hi
  match i, hi with
  | 0, _ => decide +kernel
  | 1, _ => decide +kernel
  | 2, _ => decide +kernel
  | 3, _ => decide +kernel
  | 4, _ => decide +kernel
  | 5, _ => decide +kernel
  | i + 6, h => omega
theorem sn_new {index ci : Nat} (hc : ci < 6) (hw : Cond.classLink (tm_y k).cls index (am_cn ci) ∈ am_gt) (hw2 : Cond.instantiable (am_cn ci) (am_N ci) ∈ am_gt) (hw3 : Cond.initialized (am_cn ci) ∈ am_gt) (hd : decode (tm_b k) pc = .ok (.new index, 3)) (hz2 : h.1 + 1 ≤ h0.1 + tm_mc k ∧ h.2.1 + (am_df ci).length ≤ h0.2.1 + tm_ms k) (K : am_wa L xs k h0 r h1 (pc + 3) ls (.ref h.1 :: st) (am_push h (am_df ci).length (.inr (ci, am_df ci)))) : am_wa L xs k h0 r h1 pc ls st h := by
  intro l g p e R s m args below meth c Q A H locs lr hW hS hL hz
  have hR := A.2.2.2.2.2.2.2.1
  have hz' := hz
  obtain ⟨⟨z1, z2⟩, z3, z4⟩ := hz'
  have hlen := am_df_len ci hc
  refine va_new (ci := ci) (fs := am_df ci) (C := am_cn ci) (T := am_T ci) (N := am_N ci) A.1 A.2.1 A.2.2.2.2.1 (am_ing hc) (am_ty ci) (am_tyk ci hc) A.2.2.2.1 (A.2.2.2.2.1 _ hw) (A.2.2.2.2.1 _ hw2) (A.2.2.2.2.1 _ hw3) A.2.2.2.2.2.1.1 hW.2 (am_D g h) (am_S_here hS) (fun q hq => ?_) (am_cl_at ci hc) (am_df_at ci hc) (by omega) (by omega) hd (fun q H1 hP1 hD1 hS1 => ?_)
  · show g.2.2.1 ≤ q
    have := hW.1.1
    omega
  · have er : am_rc g (.inr (ci, am_df ci)) = .inr (ci, am_df ci) := by
      show Sum.inr (ci, (am_df ci).map (am_v g)) = _
      rw [am_df_v g ci hc]
    rw [← er] at hP1 hD1
    rw [← hlen]
    exact am_nextN (cl := .inr (ci, am_df ci)) A hW hS hz hz2 K hL hP1 hD1 hS1
theorem am_cats (g : am_G) (hg : g.2.2.2.2.category = 1) : ∀ st : List Value, ((st.map (am_v g)).map fun v => v.category).sum ≤ 2 * st.length := by
  intro st
  induction st with
  | nil => simp
  | cons v st ih =>
    have hv : (am_v g v).category ≤ 2 := by rcases lv_cat (am_v g v) with z | z <;> omega
    simp only [List.map_cons, List.sum_cons, List.length_cons]
    omega
theorem sn_oinit {index a : Nat} (hs : st.length ≤ 4) (hfr : 1 ≤ tm_fr k) (hlo : 30 ≤ tm_lo k) (hw : Cond.methodLink (tm_y k).cls index objectInit ∈ am_gt) (hd : decode (tm_b k) pc = .ok (.invokespecial index, 3)) (K : am_wa L xs k h0 r h1 (pc + 3) ls st h) : am_wa L xs k h0 r h1 pc ls (.ref a :: st) h := by
  intro l g p e R s m args below meth c Q A H locs lr hW hS hL hz
  have hR := A.2.2.2.2.2.2.2.1
  have hin : ∀ w ∈ am_ot, goodWord w = true → w ∈ am_gt := fun w hw hg => am_gt_of (am_ot_in w hw) hg
  have hc := am_cats g hL.2 st
  have hm : 2 * (F0 m pc lr ((Value.ref a :: st).map (am_v g))).monitorRoom + ((st.map (am_v g)).map fun v => v.category).sum ≤ 8 := lv_room (by omega)
  exact W.objInit A.1 A.2.1 A.2.2.2.1 (A.2.2.2.2.1 _ hw) (A.2.2.2.2.1 _ (hin (.instanceMethod objectInit) (by decide +kernel) rfl)) (A.2.2.2.2.1 _ (hin (.code objectInit ⟨#[0xb1]⟩ 1 none) (by decide +kernel) rfl)) rfl ((am_LR_n hL).trans A.2.2.1.symm) rfl hd (by omega) (by omega) (K l g p e R s m args below meth c Q A H locs lr hW hS hL hz)
theorem sn_max {index : Nat} {x y : Int32} (hs : st.length ≤ 4) (hfr : 1 ≤ tm_fr k) (hlo : 30 ≤ tm_lo k) (hw : Cond.methodLink (tm_y k).cls index Lib.Math.max.name ∈ am_gt) (hd : decode (tm_b k) pc = .ok (.invokestatic index, 3)) (K : am_wa L xs k h0 r h1 (pc + 3) ls (.int (if x < y then y else x) :: st) h) : am_wa L xs k h0 r h1 pc ls (.int y :: .int x :: st) h := by
  intro l g p e R s m args below meth c Q A H locs lr hW hS hL hz
  have hR := A.2.2.2.2.2.2.2.1
  have hin : ∀ w ∈ am_ot, goodWord w = true → w ∈ am_gt := fun w hw hg => am_gt_of (am_ot_in w hw) hg
  have hc := am_cats g hL.2 st
  obtain ⟨⟨z1, z2⟩, z3, z4⟩ := id hz
  exact va_mmax A.1 A.2.1 (A.2.2.1.trans (am_LR_n hL).symm) A.2.2.2.1 (A.2.2.2.2.1 _ hw) (A.2.2.2.2.1 _ (hin (.static Lib.Math.max.name) (by decide +kernel) rfl)) (A.2.2.2.2.1 _ (hin (.initialized "java/lang/Math") (by decide +kernel) rfl)) (A.2.2.2.2.1 _ (hin (.code Lib.Math.max.name Lib.Math.max.code 2 (some .int)) (by decide +kernel) rfl)) (by omega) (by omega) (by omega) (by omega) hd (K l g p e R s m args below meth c Q A H locs lr hW hS hL hz)
theorem sn_min {index : Nat} {x y : Int32} (hs : st.length ≤ 4) (hfr : 1 ≤ tm_fr k) (hlo : 30 ≤ tm_lo k) (hw : Cond.methodLink (tm_y k).cls index Lib.Math.min.name ∈ am_gt) (hd : decode (tm_b k) pc = .ok (.invokestatic index, 3)) (K : am_wa L xs k h0 r h1 (pc + 3) ls (.int (if y < x then y else x) :: st) h) : am_wa L xs k h0 r h1 pc ls (.int y :: .int x :: st) h := by
  intro l g p e R s m args below meth c Q A H locs lr hW hS hL hz
  have hR := A.2.2.2.2.2.2.2.1
  have hin : ∀ w ∈ am_ot, goodWord w = true → w ∈ am_gt := fun w hw hg => am_gt_of (am_ot_in w hw) hg
  have hc := am_cats g hL.2 st
  obtain ⟨⟨z1, z2⟩, z3, z4⟩ := id hz
  exact va_mmin A.1 A.2.1 (A.2.2.1.trans (am_LR_n hL).symm) A.2.2.2.1 (A.2.2.2.2.1 _ hw) (A.2.2.2.2.1 _ (hin (.static Lib.Math.min.name) (by decide +kernel) rfl)) (A.2.2.2.2.1 _ (hin (.initialized "java/lang/Math") (by decide +kernel) rfl)) (A.2.2.2.2.1 _ (hin (.code Lib.Math.min.name Lib.Math.min.code 2 (some .int)) (by decide +kernel) rfl)) (by omega) (by omega) (by omega) (by omega) hd (K l g p e R s m args below meth c Q A H locs lr hW hS hL hz)
theorem sn_copy {index a0 a : Nat} {sp dp n : Int32} {h' : am_H} (hs : st.length ≤ 4) (hfr : 1 ≤ tm_fr k) (hlo : 30 ≤ tm_lo k) (hw : Cond.methodLink (tm_y k).cls index arraycopyName ∈ am_gt) (hd : decode (tm_b k) pc = .ok (.invokestatic index, 3)) (e : am_cp h a0 sp a dp n = some h') (K : am_wa L xs k h0 r h1 (pc + 3) ls st h') : am_wa L xs k h0 r h1 pc ls (.int n :: .int dp :: .ref a :: .int sp :: .ref a0 :: st) h := by
  obtain ⟨n0, n1, f, f1, he0, he1, ⟨b1, b2, b3, b4, b5⟩, rfl⟩ := am_cp_inv e
  intro l g p e R s m args below meth c Q A H locs lr hW hS hL hz
  have hR := A.2.2.2.2.2.2.2.1
  have hin : ∀ w ∈ am_ot, goodWord w = true → w ∈ am_gt := fun w hw hg => am_gt_of (am_ot_in w hw) hg
  have hc := am_cats g hL.2 st
  have hnf : nativeFrameWords "java/lang/System" "arraycopy" 5 = 7 := by decide +kernel
  exact va_copyi A.1 A.2.1 (A.2.2.1.trans (am_LR_n hL).symm) A.2.2.2.1 (A.2.2.2.2.1 _ hw) (A.2.2.2.2.1 _ (hin (.native arraycopyName) (by decide +kernel) rfl)) (A.2.2.2.2.1 _ (hin (.static arraycopyName) (by decide +kernel) rfl)) (A.2.2.2.2.1 _ (hin (.initialized "java/lang/System") (by decide +kernel) rfl)) A.2.2.2.2.2.1.1 hW.2 (am_D g h) (am_S_here hS) a0 a 0 0 (am_row hW he0) (am_row hW he1) rfl rfl rfl b1 b2 b3 b4 b5 (fun i _ => rfl) (by omega) (by rw [hnf]; omega) hd (fun H1 locs1 hP1 _ hS1 => am_next A hW hS hz (am_look_lt he1).1 K hL hP1 hS1)
theorem sn_iret {x : Int32} (hd : decode (tm_b k) pc = .ok (.ireturn, 1)) (hf : am_fit (tm_rt k) x) (hr : some x = r ∧ h = h1) : am_wa L xs k h0 r h1 pc ls [.int x] h := by
  intro l g p e R s m args below meth c Q A H locs lr hW hS hL hz
  obtain ⟨hr, rfl⟩ := hr
  exact (A.2.2.2.2.2.2.2.2.2 H locs lr pc hW hS).1 x hr.symm hd hf
theorem sn_vret (hd : decode (tm_b k) pc = .ok (.return_, 1)) (hr : none = r ∧ h = h1) : am_wa L xs k h0 r h1 pc ls [] h := by
  intro l g p e R s m args below meth c Q A H locs lr hW hS hL hz
  obtain ⟨hr, rfl⟩ := hr
  exact (A.2.2.2.2.2.2.2.2.2 H locs lr pc hW hS).2 hr.symm hd
-- calls
theorem am_blind {g : am_G} {as : List Value} : FrameBlind (va_Pc (as.map (am_v g)) (fun U => am_W g h U.heap ∧ am_X L xs g U)) := by
  intro a U fr mk q
  obtain ⟨q1, q2, q3⟩ := q
  exact ⟨q1, q2, am_X_go (s := U) (H := U.heap) (locs := []) q3 va_S.rf rfl (State.WarmedH.refl U)⟩
/-- what the tables say of a method that is called -/
def am_mk (k : Nat) : Prop := Cond.code (tm_y k) (tm_b k) (tm_ml k) (tm_ret k) ∈ am_gt ∧ Cond.initialized (tm_y k).cls ∈ am_gt ∧ ((tm_y k).cls ≠ "java/lang/invoke/MethodHandle" ∧ (tm_y k).cls ≠ "java/lang/invoke/VarHandle" ∧ (parseMethodDescriptor (tm_y k).desc).map (fun d => d.parameters.length) = some (tm_n k)) ∧ (tm_kd k = 0 → Cond.static (tm_y k) ∈ am_gt) ∧ (tm_kd k = 1 → Cond.instanceMethod (tm_y k) ∈ am_gt ∧ Cond.selects (tm_y k).cls (tm_y k) (tm_y k) ∈ am_gt ∧ ((tm_ci k < 6 ∧ (tm_y k).cls = am_cn (tm_ci k)) ∨ (tm_ci k = 99 ∧ (tm_y k).cls = "java/lang/String"))) ∧ (tm_kd k = 2 → Cond.instanceMethod (tm_y k) ∈ am_gt ∧ (tm_y k).name = "<init>" ∧ tm_ret k = none)
/-- the caller's link to a method: plain, or of a nest mate -/
def am_lk (k index k' : Nat) : Prop := Cond.methodLink (tm_y k).cls index (tm_y k') ∈ am_gt ∨ ∃ host, Cond.methodLinkNest (tm_y k).cls index (tm_y k') host ∈ am_nw
theorem am_ws_good (k' : Nat) (hk : am_mk k') : GoodIn am_gt (tm_ws k') := by
  intro w hw
  rcases List.mem_cons.mp hw with rfl | hw
  · exact am_gt_good _ hk.1
  · exact am_gt_good _ hw
theorem sn_call {index k' : Nat} {as st1 : List Value} {h' : am_H} {r' : Option Int32} {op : Nat} (hm : am_mk k') (hlk : am_lk k index k') (hfr : tm_fr k' + 1 ≤ tm_fr k) (hlo : tm_lo k' + 19 + tm_ml k' ≤ tm_lo k) (hs : st.length ≤ 4)
    (hop : (op = 0 ∧ decode (tm_b k) pc = .ok (.invokestatic index, 3) ∧ tm_kd k' = 0 ∧ as.length = tm_n k') ∨ (op = 1 ∧ decode (tm_b k) pc = .ok (.invokevirtual index, 3) ∧ tm_kd k' = 1 ∧ as.length = tm_n k' + 1) ∨ (op = 2 ∧ decode (tm_b k) pc = .ok (.invokespecial index, 3) ∧ tm_kd k' = 2 ∧ as.length = tm_n k' + 1))
    (hok : am_ok L xs k' as h r' h') (hb : am_sz k h0 h → h'.1 ≤ h0.1 + tm_mc k ∧ h'.2.1 ≤ h0.2.1 + tm_ms k) (hst : (r'.map Value.int).toList ++ st = st1) (K : am_wa L xs k h0 r h1 (pc + 3) ls st1 h') : am_wa L xs k h0 r h1 pc ls (as.reverse ++ st) h := by
  intro l g p e R s m args below meth c Q A H locs lr hW hS hL hz
  have hR := A.2.2.2.2.2.2.2.1
  obtain ⟨⟨hre, e1, e2⟩, hM⟩ := hok
  obtain ⟨b1, b2⟩ := hb hz
  have hbb := A.2.2.2.2.2.2.1.2
  have hMet := hM l g (by omega)
  have hc := am_cats g hL.2 st
  have hts := A.2.2.2.2.1
  obtain ⟨⟨z1, z2⟩, z3, z4⟩ := id hz
  have hRR : (tm_rm k').frames + 1 ≤ R.frames ∧ 8 + (tm_ml k' + 11) + (tm_rm k').locals ≤ R.locals := by
    refine ⟨?_, ?_⟩
    · show tm_fr k' + 1 ≤ R.frames
      omega
    · show 8 + (tm_ml k' + 11) + tm_lo k' ≤ R.locals
      omega
  have hf : h.1 - h0.1 + tm_mc k' ≤ R.cells ∧ h.2.1 - h0.2.1 + tm_ms k' ≤ R.slots := by omega
  have hfix : CallFix p m c (tm_b k) (tm_ml k) s args am_gt (tm_y k).cls := ⟨A.1, A.2.1, A.2.2.1, A.2.2.2.1, hts⟩
  have hpre : ∀ U : State, U.heap = H → s.WarmedH U.vm → (va_Pc (as.map (am_v g)) (fun U => am_W g h U.heap ∧ am_X L xs g U)) (as.map (am_v g)).toArray U := fun U hU hWm => ⟨rfl, by rw [hU]; exact hW, am_X_go A.2.2.2.2.2.1 hS hU hWm⟩
  have hroom : 2 * (F0 m pc lr ((as.reverse ++ st).map (am_v g))).monitorRoom + ((st.map (am_v g)).map fun v => v.category).sum ≤ 8 := lv_room (by omega)
  have hst' : (r'.map Value.int).toList ++ st.map (am_v g) = st1.map (am_v g) := by
    rw [← hst]
    cases r' <;> rfl
  have hini := hts _ hm.2.1
  have hGood := am_ws_good k' hm
  have hstk : (F0 m pc lr ((as.reverse ++ st).map (am_v g))).stack = (as.map (am_v g)).reverse ++ st.map (am_v g) := by
    show (as.reverse ++ st).map (am_v g) = _
    rw [List.map_append, List.map_reverse]
  refine am_cont (rest := st.map (am_v g)) (k' := k') A hW hS hz ?_ e1 e2 b1 b2 hst' hL K
  have hlk' : (Cond.methodLink (tm_y k).cls index (tm_y k')).before args s = true ∨ ∃ host, va_Nw (.methodLinkNest (tm_y k).cls index (tm_y k') host) s := by
    rcases hlk with z | ⟨host, z⟩
    · exact Or.inl (hts _ z)
    · exact Or.inr ⟨host, A.2.2.2.2.2.1.2.1 _ z⟩
  rcases hop with ⟨-, hd, hkd, hlen⟩ | ⟨-, hd, hkd, hlen⟩ | ⟨-, hd, hkd, hlen⟩
  · have hstat := hts _ (hm.2.2.2.1 hkd)
    rcases hlk' with hl | ⟨host, hl⟩
    · exact va_runS (As := as.map (am_v g)) hfix hMet ⟨callB_of (tm_n k') hts hGood rfl rfl rfl hini hl hm.2.2.1 hRR, hstat⟩ ⟨am_blind, hpre⟩ rfl (by rw [List.length_map]; exact hlen) (am_LR_n hL) hstk hroom hd hf
    · exact va_runSN (host := host) (As := as.map (am_v g)) hfix hMet ⟨va_cnB (tm_n k') hts hGood rfl rfl rfl hl hini hm.2.2.1 hRR, hstat, trivial⟩ ⟨am_blind, hpre⟩ rfl (by rw [List.length_map]; exact hlen) (am_LR_n hL) hstk hroom hd hf
  · obtain ⟨hinst, hsel, hcls⟩ := hm.2.2.2.2.1 hkd
    obtain ⟨b, tl, rfl, hb⟩ := hre.1 hkd
    have hlen' : (tl.map (am_v g)).length = tm_n k' := by
      rw [List.length_map]
      simp at hlen
      omega
    have hrecv : ∃ cellB : Cell, H[am_al g b]? = some cellB ∧ cellB.vm.isStatics = false ∧ s.vm.findClass (tm_y k').cls = some cellB.cls := by
      rcases hcls with ⟨q1, q2⟩ | ⟨q1, q2⟩
      · rcases hb with hb | ⟨hb, -⟩
        · obtain ⟨fs, hfs⟩ := am_cls_inv hb
          have := va_recv A.2.2.2.2.2.1.1 hW.2 (am_cl_at _ q1) (am_row hW hfs)
          rw [q2]
          exact this
        · omega
      · rcases hb with hb | ⟨-, hb1, hb2⟩
        · exfalso
          obtain ⟨fs, hfs⟩ := am_cls_inv hb
          obtain ⟨r9, h9, -⟩ := hW.2 b _ (am_row hW hfs)
          rw [q1] at h9
          exact absurd (List.getElem?_eq_some_iff.mp h9).1 (by simp)
        · have := vk_recv (i := b - 1000001) A.2.2.2.2.2.1.2.2.2.2.2.1 (by omega) hS
          have e9 : am_al g b = g.2.2.2.1 (1 + (b - 1000001)) := by
            have q9 := am_al_sp g (1 + (b - 1000001))
            rwa [show 1000000 + (1 + (b - 1000001)) = b by omega] at q9
          rw [e9, q2]
          exact this
    have hstk2 : (F0 m pc lr (((Value.ref b :: tl).reverse ++ st).map (am_v g))).stack = (tl.map (am_v g)).reverse ++ .ref (am_al g b) :: st.map (am_v g) := by
      rw [hstk]
      simp [am_v_ref]
    rcases hlk' with hl | ⟨host, hl⟩
    · exact va_runV (C := (tm_y k').cls) (b := am_al g b) (As := tl.map (am_v g)) hfix hMet ⟨callB_of (tm_n k') hts hGood rfl rfl rfl hini hl hm.2.2.1 hRR, hts _ hinst, hts _ hsel⟩ ⟨am_blind, hrecv, hpre⟩ rfl hlen' (am_LR_n hL) hstk2 hroom hd hf
    · exact va_runVN (host := host) (C := (tm_y k').cls) (b := am_al g b) (As := tl.map (am_v g)) hfix hMet ⟨va_cnB (tm_n k') hts hGood rfl rfl rfl hl hini hm.2.2.1 hRR, hts _ hinst, hts _ hsel⟩ ⟨am_blind, hrecv, hpre⟩ rfl hlen' (am_LR_n hL) hstk2 hroom hd hf
  · obtain ⟨hinst, hnm, hrt⟩ := hm.2.2.2.2.2 hkd
    obtain ⟨b, tl, rfl⟩ := hre.2 hkd
    have hlen' : (tl.map (am_v g)).length = tm_n k' := by
      rw [List.length_map]
      simp at hlen
      omega
    have hstk2 : (F0 m pc lr (((Value.ref b :: tl).reverse ++ st).map (am_v g))).stack = (tl.map (am_v g)).reverse ++ .ref (am_al g b) :: st.map (am_v g) := by
      rw [hstk]
      simp [am_v_ref]
    have hw0 : tm_ws k' = Cond.code (tm_y k') (tm_b k') (tm_ml k') none :: am_gt := by
      show Cond.code (tm_y k') (tm_b k') (tm_ml k') (tm_ret k') :: am_gt = _
      rw [hrt]
    rcases hlk' with hl | ⟨host, hl⟩
    · exact va_runI (b := am_al g b) (As := tl.map (am_v g)) hfix hMet ⟨callB_of (tm_n k') hts hGood hw0 rfl rfl hini hl hm.2.2.1 hRR, hnm, hts _ hinst⟩ ⟨am_blind, hpre⟩ rfl hlen' (am_LR_n hL) hstk2 hroom hd hf
    · exact va_runIN (host := host) (b := am_al g b) (As := tl.map (am_v g)) hfix hMet ⟨va_cnB (tm_n k') hts hGood hw0 rfl rfl hl hini hm.2.2.1 hRR, hnm, hts _ hinst⟩ ⟨am_blind, hpre⟩ rfl hlen' (am_LR_n hL) hstk2 hroom hd hf
end SC
