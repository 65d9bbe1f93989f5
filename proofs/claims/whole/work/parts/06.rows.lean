/-! THE INSTRUCTIONS, one row each: am_wa at an instruction out of am_wa at the next (the kit's rows, lifted) -/
section SN
variable {L : Nat} {xs : Nat → Int32} {k : Nat} {h0 h1 h : am_H} {r : Option Int32} {pc : Nat} {ls st : List Value}
theorem sn_iconst {n : Int} {v : Int32} (hv : Int32.ofInt n = v) (hd : decode (tm_b k) pc = .ok (.iconst n, 1)) (K : am_wa L xs k h0 r h1 (pc + 1) ls (.int v :: st) h) : am_wa L xs k h0 r h1 pc ls (st) h := by
  intro l g p e R s m args below meth c Q A H locs lr hW hS hL hz
  exact lv_iconst A.1 A.2.1 hd hv (K l g p e R s m args below meth c Q A H locs lr hW hS hL hz)
theorem sn_bipush {n : Int} {v : Int32} (hv : (Int8.ofInt n).toInt32 = v) (hd : decode (tm_b k) pc = .ok (.bipush n, 2)) (K : am_wa L xs k h0 r h1 (pc + 2) ls (.int v :: st) h) : am_wa L xs k h0 r h1 pc ls (st) h := by
  intro l g p e R s m args below meth c Q A H locs lr hW hS hL hz
  exact lv_bipush A.1 A.2.1 hd hv (K l g p e R s m args below meth c Q A H locs lr hW hS hL hz)
theorem sn_sipush {n : Int} {v : Int32} (hv : (Int16.ofInt n).toInt32 = v) (hd : decode (tm_b k) pc = .ok (.sipush n, 3)) (K : am_wa L xs k h0 r h1 (pc + 3) ls (.int v :: st) h) : am_wa L xs k h0 r h1 pc ls (st) h := by
  intro l g p e R s m args below meth c Q A H locs lr hW hS hL hz
  exact lv_sipush A.1 A.2.1 hd hv (K l g p e R s m args below meth c Q A H locs lr hW hS hL hz)
theorem sn_ldc {i : Nat} {v : Int32} (hv : Cond.constant (tm_y k).cls i v ∈ am_gt) (hd : decode (tm_b k) pc = .ok (.ldc i, 2)) (K : am_wa L xs k h0 r h1 (pc + 2) ls (.int v :: st) h) : am_wa L xs k h0 r h1 pc ls (st) h := by
  intro l g p e R s m args below meth c Q A H locs lr hW hS hL hz
  exact lv_ldc A.1 A.2.1 A.2.2.2.1 (A.2.2.2.2.1 _ hv) hd (K l g p e R s m args below meth c Q A H locs lr hW hS hL hz)
theorem sn_ldcw {i : Nat} {v : Int32} (hv : Cond.constant (tm_y k).cls i v ∈ am_gt) (hd : decode (tm_b k) pc = .ok (.ldc_w i, 3)) (K : am_wa L xs k h0 r h1 (pc + 3) ls (.int v :: st) h) : am_wa L xs k h0 r h1 pc ls (st) h := by
  intro l g p e R s m args below meth c Q A H locs lr hW hS hL hz
  exact lv_ldcw A.1 A.2.1 A.2.2.2.1 (A.2.2.2.2.1 _ hv) hd (K l g p e R s m args below meth c Q A H locs lr hW hS hL hz)
theorem sn_ldc2 {i : Nat} {v : Int64} (hv : Cond.constantLong (tm_y k).cls i v ∈ am_gt) (hd : decode (tm_b k) pc = .ok (.ldc2_w i, 3)) (K : am_wa L xs k h0 r h1 (pc + 3) ls (.long v :: st) h) : am_wa L xs k h0 r h1 pc ls (st) h := by
  intro l g p e R s m args below meth c Q A H locs lr hW hS hL hz
  exact lv_ldc2 A.1 A.2.1 A.2.2.2.1 (A.2.2.2.2.1 _ hv) hd (K l g p e R s m args below meth c Q A H locs lr hW hS hL hz)
theorem sn_ldcs {i j : Nat} (hj : j < 4) (hi : am_si j = i) (hc : (tm_y k).cls = RX3) (hd : decode (tm_b k) pc = .ok (.ldc i, 2)) (K : am_wa L xs k h0 r h1 (pc + 2) ls (.ref (1000001 + j) :: st) h) : am_wa L xs k h0 r h1 pc ls (st) h := by
  intro l g p e R s m args below meth c Q A H locs lr hW hS hL hz
  have q := K l g p e R s m args below meth c Q A H locs lr hW hS hL hz
  have e9 : am_al g (1000001 + j) = g.2.2.2.1 (1 + j) := by rw [am_al, if_neg (by omega), show 1000001 + j - 1000000 = 1 + j by omega]
  rw [List.map_cons, am_v_ref, e9] at q
  have z := A.2.2.2.2.2.1.2.2.2.2.1 j hj
  have o := A.2.2.2.1
  rw [hc] at o
  rw [hi] at z
  exact va_ldcS A.1 A.2.1 o z hd q
theorem sn_lconst {n : Fin 2} {v : Int64} (hv : Int64.ofNat (n : Nat) = v) (hd : decode (tm_b k) pc = .ok (.lconst n, 1)) (K : am_wa L xs k h0 r h1 (pc + 1) ls (.long v :: st) h) : am_wa L xs k h0 r h1 pc ls (st) h := by
  intro l g p e R s m args below meth c Q A H locs lr hW hS hL hz
  exact lv_lconst A.1 A.2.1 hd hv (K l g p e R s m args below meth c Q A H locs lr hW hS hL hz)
theorem sn_iload_n {j : Fin 4} {i : Nat} {x : Int32} (hj : (j : Nat) = i) (hx : am_nth ls i = .int x) (hd : decode (tm_b k) pc = .ok (.iload_n j, 1)) (K : am_wa L xs k h0 r h1 (pc + 1) ls (.int x :: st) h) : am_wa L xs k h0 r h1 pc ls (st) h := by
  intro l g p e R s m args below meth c Q A H locs lr hW hS hL hz
  exact lv_iload_n A.1 A.2.1 hd hj (am_LR_at hL hx (fun z => by cases z)) (K l g p e R s m args below meth c Q A H locs lr hW hS hL hz)
theorem sn_iload {i : Nat} {x : Int32} (hx : am_nth ls i = .int x) (hd : decode (tm_b k) pc = .ok (.iload i, 2)) (K : am_wa L xs k h0 r h1 (pc + 2) ls (.int x :: st) h) : am_wa L xs k h0 r h1 pc ls (st) h := by
  intro l g p e R s m args below meth c Q A H locs lr hW hS hL hz
  exact lv_iload A.1 A.2.1 hd (am_LR_at hL hx (fun z => by cases z)) (K l g p e R s m args below meth c Q A H locs lr hW hS hL hz)
theorem sn_aload_n {j : Fin 4} {i : Nat} {x : Nat} (hj : (j : Nat) = i) (hx : am_nth ls i = .ref x) (hd : decode (tm_b k) pc = .ok (.aload_n j, 1)) (K : am_wa L xs k h0 r h1 (pc + 1) ls (.ref x :: st) h) : am_wa L xs k h0 r h1 pc ls (st) h := by
  intro l g p e R s m args below meth c Q A H locs lr hW hS hL hz
  exact lv_aload_n A.1 A.2.1 hd hj (am_LR_at hL hx (fun z => by cases z)) (K l g p e R s m args below meth c Q A H locs lr hW hS hL hz)
theorem sn_lload_n {j : Fin 4} {i : Nat} {x : Int64} (hj : (j : Nat) = i) (hx : am_nth ls i = .long x) (hd : decode (tm_b k) pc = .ok (.lload_n j, 1)) (K : am_wa L xs k h0 r h1 (pc + 1) ls (.long x :: st) h) : am_wa L xs k h0 r h1 pc ls (st) h := by
  intro l g p e R s m args below meth c Q A H locs lr hW hS hL hz
  exact lv_lload_n A.1 A.2.1 hd hj (am_LR_at hL hx (fun z => by cases z)) (K l g p e R s m args below meth c Q A H locs lr hW hS hL hz)
theorem sn_lload {i : Nat} {x : Int64} (hx : am_nth ls i = .long x) (hd : decode (tm_b k) pc = .ok (.lload i, 2)) (K : am_wa L xs k h0 r h1 (pc + 2) ls (.long x :: st) h) : am_wa L xs k h0 r h1 pc ls (st) h := by
  intro l g p e R s m args below meth c Q A H locs lr hW hS hL hz
  exact lv_lload A.1 A.2.1 hd (am_LR_at hL hx (fun z => by cases z)) (K l g p e R s m args below meth c Q A H locs lr hW hS hL hz)
theorem sn_istore_n {j : Fin 4} {i : Nat} {x : Int32} (hj : (j : Nat) = i) (hn : i < tm_ml k) (hl : am_nl ls = true) (hd : decode (tm_b k) pc = .ok (.istore_n j, 1)) (K : am_wa L xs k h0 r h1 (pc + 1) (am_set ls i (.int x)) st h) : am_wa L xs k h0 r h1 pc ls (.int x :: st) h := by
  intro l g p e R s m args below meth c Q A H locs lr hW hS hL hz
  exact lv_istore_n A.1 A.2.1 hd hj hL.1 hn rfl (fun lr' hl' => K l g p e R s m args below meth c Q A H locs lr' hW hS (am_LR_set hL hl hl') hz)
theorem sn_istore {i : Nat} {x : Int32} (hn : i < tm_ml k) (hl : am_nl ls = true) (hd : decode (tm_b k) pc = .ok (.istore i, 2)) (K : am_wa L xs k h0 r h1 (pc + 2) (am_set ls i (.int x)) st h) : am_wa L xs k h0 r h1 pc ls (.int x :: st) h := by
  intro l g p e R s m args below meth c Q A H locs lr hW hS hL hz
  exact lv_istore A.1 A.2.1 hd hL.1 hn rfl (fun lr' hl' => K l g p e R s m args below meth c Q A H locs lr' hW hS (am_LR_set hL hl hl') hz)
theorem sn_astore_n {j : Fin 4} {i : Nat} {x : Nat} (hj : (j : Nat) = i) (hn : i < tm_ml k) (hl : am_nl ls = true) (hd : decode (tm_b k) pc = .ok (.astore_n j, 1)) (K : am_wa L xs k h0 r h1 (pc + 1) (am_set ls i (.ref x)) st h) : am_wa L xs k h0 r h1 pc ls (.ref x :: st) h := by
  intro l g p e R s m args below meth c Q A H locs lr hW hS hL hz
  exact lv_astore_n A.1 A.2.1 hd hj hL.1 hn rfl (fun lr' hl' => K l g p e R s m args below meth c Q A H locs lr' hW hS (am_LR_set hL hl hl') hz)
theorem sn_iinc {i : Nat} {n : Int} {x v : Int32} (hn : i < tm_ml k) (hl : am_nl ls = true) (hx : am_nth ls i = .int x) (hv : Int32.ofInt n = v) (hd : decode (tm_b k) pc = .ok (.iinc i n, 3)) (K : am_wa L xs k h0 r h1 (pc + 3) (am_set ls i (.int (x + v))) st h) : am_wa L xs k h0 r h1 pc ls st h := by
  intro l g p e R s m args below meth c Q A H locs lr hW hS hL hz
  have hm := am_as_of g ls 0 i _ hx (fun z => by cases z)
  rw [Nat.zero_add] at hm
  obtain ⟨q, hq⟩ := List.getElem?_of_mem hm
  exact lv_iinc A.1 A.2.1 hd hL.1 hq (v := x + v) (by rw [hv]) hn rfl (fun lr' hl' => K l g p e R s m args below meth c Q A H locs lr' hW hS (am_LR_set (v := .int (x + v)) hL hl hl') hz)
theorem sn_iadd {x y : Int32} (hd : decode (tm_b k) pc = .ok (.iadd, 1)) (K : am_wa L xs k h0 r h1 (pc + 1) ls (.int (x + y) :: st) h) : am_wa L xs k h0 r h1 pc ls (.int y :: .int x :: st) h := by
  intro l g p e R s m args below meth c Q A H locs lr hW hS hL hz
  exact lv_iadd A.1 A.2.1 hd (K l g p e R s m args below meth c Q A H locs lr hW hS hL hz)
theorem sn_isub {x y : Int32} (hd : decode (tm_b k) pc = .ok (.isub, 1)) (K : am_wa L xs k h0 r h1 (pc + 1) ls (.int (x - y) :: st) h) : am_wa L xs k h0 r h1 pc ls (.int y :: .int x :: st) h := by
  intro l g p e R s m args below meth c Q A H locs lr hW hS hL hz
  exact lv_isub A.1 A.2.1 hd (K l g p e R s m args below meth c Q A H locs lr hW hS hL hz)
theorem sn_imul {x y : Int32} (hd : decode (tm_b k) pc = .ok (.imul, 1)) (K : am_wa L xs k h0 r h1 (pc + 1) ls (.int (x * y) :: st) h) : am_wa L xs k h0 r h1 pc ls (.int y :: .int x :: st) h := by
  intro l g p e R s m args below meth c Q A H locs lr hW hS hL hz
  exact lv_imul A.1 A.2.1 hd (K l g p e R s m args below meth c Q A H locs lr hW hS hL hz)
theorem sn_iand {x y : Int32} (hd : decode (tm_b k) pc = .ok (.iand, 1)) (K : am_wa L xs k h0 r h1 (pc + 1) ls (.int (x &&& y) :: st) h) : am_wa L xs k h0 r h1 pc ls (.int y :: .int x :: st) h := by
  intro l g p e R s m args below meth c Q A H locs lr hW hS hL hz
  exact lv_iand A.1 A.2.1 hd (K l g p e R s m args below meth c Q A H locs lr hW hS hL hz)
theorem sn_ior {x y : Int32} (hd : decode (tm_b k) pc = .ok (.ior, 1)) (K : am_wa L xs k h0 r h1 (pc + 1) ls (.int (x ||| y) :: st) h) : am_wa L xs k h0 r h1 pc ls (.int y :: .int x :: st) h := by
  intro l g p e R s m args below meth c Q A H locs lr hW hS hL hz
  exact lv_ior A.1 A.2.1 hd (K l g p e R s m args below meth c Q A H locs lr hW hS hL hz)
theorem sn_ixor {x y : Int32} (hd : decode (tm_b k) pc = .ok (.ixor, 1)) (K : am_wa L xs k h0 r h1 (pc + 1) ls (.int (x ^^^ y) :: st) h) : am_wa L xs k h0 r h1 pc ls (.int y :: .int x :: st) h := by
  intro l g p e R s m args below meth c Q A H locs lr hW hS hL hz
  exact lv_ixor A.1 A.2.1 hd (K l g p e R s m args below meth c Q A H locs lr hW hS hL hz)
theorem sn_ishl {x y : Int32} (hd : decode (tm_b k) pc = .ok (.ishl, 1)) (K : am_wa L xs k h0 r h1 (pc + 1) ls (.int (x <<< (y &&& 31)) :: st) h) : am_wa L xs k h0 r h1 pc ls (.int y :: .int x :: st) h := by
  intro l g p e R s m args below meth c Q A H locs lr hW hS hL hz
  exact lv_ishl A.1 A.2.1 hd (K l g p e R s m args below meth c Q A H locs lr hW hS hL hz)
theorem sn_ishr {x y : Int32} (hd : decode (tm_b k) pc = .ok (.ishr, 1)) (K : am_wa L xs k h0 r h1 (pc + 1) ls (.int (x >>> (y &&& 31)) :: st) h) : am_wa L xs k h0 r h1 pc ls (.int y :: .int x :: st) h := by
  intro l g p e R s m args below meth c Q A H locs lr hW hS hL hz
  exact lv_ishr A.1 A.2.1 hd (K l g p e R s m args below meth c Q A H locs lr hW hS hL hz)
theorem sn_iushr {x y : Int32} (hd : decode (tm_b k) pc = .ok (.iushr, 1)) (K : am_wa L xs k h0 r h1 (pc + 1) ls (.int (x.toUInt32 >>> (y.toUInt32 &&& Int32.toUInt32 31)).toInt32 :: st) h) : am_wa L xs k h0 r h1 pc ls (.int y :: .int x :: st) h := by
  intro l g p e R s m args below meth c Q A H locs lr hW hS hL hz
  exact lv_iushr A.1 A.2.1 hd rfl (K l g p e R s m args below meth c Q A H locs lr hW hS hL hz)
theorem sn_idiv {x y : Int32} (hy : ¬ y = 0) (hd : decode (tm_b k) pc = .ok (.idiv, 1)) (K : am_wa L xs k h0 r h1 (pc + 1) ls (.int (x / y) :: st) h) : am_wa L xs k h0 r h1 pc ls (.int y :: .int x :: st) h := by
  intro l g p e R s m args below meth c Q A H locs lr hW hS hL hz
  exact lv_idiv A.1 A.2.1 hd hy (K l g p e R s m args below meth c Q A H locs lr hW hS hL hz)
theorem sn_irem {x y : Int32} (hy : ¬ y = 0) (hd : decode (tm_b k) pc = .ok (.irem, 1)) (K : am_wa L xs k h0 r h1 (pc + 1) ls (.int (x - x / y * y) :: st) h) : am_wa L xs k h0 r h1 pc ls (.int y :: .int x :: st) h := by
  intro l g p e R s m args below meth c Q A H locs lr hW hS hL hz
  exact lv_irem A.1 A.2.1 hd hy (K l g p e R s m args below meth c Q A H locs lr hW hS hL hz)
theorem sn_ineg {x : Int32} (hd : decode (tm_b k) pc = .ok (.ineg, 1)) (K : am_wa L xs k h0 r h1 (pc + 1) ls (.int (-x) :: st) h) : am_wa L xs k h0 r h1 pc ls (.int x :: st) h := by
  intro l g p e R s m args below meth c Q A H locs lr hW hS hL hz
  exact lv_ineg A.1 A.2.1 hd (K l g p e R s m args below meth c Q A H locs lr hW hS hL hz)
theorem sn_i2l {x : Int32} (hd : decode (tm_b k) pc = .ok (.i2l, 1)) (K : am_wa L xs k h0 r h1 (pc + 1) ls (.long x.toInt64 :: st) h) : am_wa L xs k h0 r h1 pc ls (.int x :: st) h := by
  intro l g p e R s m args below meth c Q A H locs lr hW hS hL hz
  exact lv_i2l A.1 A.2.1 hd rfl (K l g p e R s m args below meth c Q A H locs lr hW hS hL hz)
theorem sn_i2c {x : Int32} (hd : decode (tm_b k) pc = .ok (.i2c, 1)) (K : am_wa L xs k h0 r h1 (pc + 1) ls (.int (x.toUInt32 % 65536).toInt32 :: st) h) : am_wa L xs k h0 r h1 pc ls (.int x :: st) h := by
  intro l g p e R s m args below meth c Q A H locs lr hW hS hL hz
  exact lv_i2c A.1 A.2.1 hd rfl (K l g p e R s m args below meth c Q A H locs lr hW hS hL hz)
theorem sn_lcmp {x y : Int64} (hd : decode (tm_b k) pc = .ok (.lcmp, 1)) (K : am_wa L xs k h0 r h1 (pc + 1) ls (.int (lg_cmp x y) :: st) h) : am_wa L xs k h0 r h1 pc ls (.long y :: .long x :: st) h := by
  intro l g p e R s m args below meth c Q A H locs lr hW hS hL hz
  exact W.lcmp A.1 A.2.1 hd (K l g p e R s m args below meth c Q A H locs lr hW hS hL hz)
theorem sn_dup_int {x : Int32} (hd : decode (tm_b k) pc = .ok (.dup, 1)) (K : am_wa L xs k h0 r h1 (pc + 1) ls (.int x :: .int x :: st) h) : am_wa L xs k h0 r h1 pc ls (.int x :: st) h := by
  intro l g p e R s m args below meth c Q A H locs lr hW hS hL hz
  exact lv_dup A.1 A.2.1 hd rfl (K l g p e R s m args below meth c Q A H locs lr hW hS hL hz)
theorem sn_pop_int {x : Int32} (hd : decode (tm_b k) pc = .ok (.pop, 1)) (K : am_wa L xs k h0 r h1 (pc + 1) ls (st) h) : am_wa L xs k h0 r h1 pc ls (.int x :: st) h := by
  intro l g p e R s m args below meth c Q A H locs lr hW hS hL hz
  exact lv_pop A.1 A.2.1 hd rfl (K l g p e R s m args below meth c Q A H locs lr hW hS hL hz)
theorem sn_dup2_int {x : Int32} {y : Int32} (hd : decode (tm_b k) pc = .ok (.dup2, 1)) (K : am_wa L xs k h0 r h1 (pc + 1) ls (.int x :: .int y :: .int x :: .int y :: st) h) : am_wa L xs k h0 r h1 pc ls (.int x :: .int y :: st) h := by
  intro l g p e R s m args below meth c Q A H locs lr hW hS hL hz
  exact lv_dup2_11 A.1 A.2.1 hd rfl rfl (K l g p e R s m args below meth c Q A H locs lr hW hS hL hz)
theorem sn_dup_ref {x : Nat} (hd : decode (tm_b k) pc = .ok (.dup, 1)) (K : am_wa L xs k h0 r h1 (pc + 1) ls (.ref x :: .ref x :: st) h) : am_wa L xs k h0 r h1 pc ls (.ref x :: st) h := by
  intro l g p e R s m args below meth c Q A H locs lr hW hS hL hz
  exact lv_dup A.1 A.2.1 hd rfl (K l g p e R s m args below meth c Q A H locs lr hW hS hL hz)
theorem sn_pop_ref {x : Nat} (hd : decode (tm_b k) pc = .ok (.pop, 1)) (K : am_wa L xs k h0 r h1 (pc + 1) ls (st) h) : am_wa L xs k h0 r h1 pc ls (.ref x :: st) h := by
  intro l g p e R s m args below meth c Q A H locs lr hW hS hL hz
  exact lv_pop A.1 A.2.1 hd rfl (K l g p e R s m args below meth c Q A H locs lr hW hS hL hz)
theorem sn_dup2_ref {x : Int32} {y : Nat} (hd : decode (tm_b k) pc = .ok (.dup2, 1)) (K : am_wa L xs k h0 r h1 (pc + 1) ls (.int x :: .ref y :: .int x :: .ref y :: st) h) : am_wa L xs k h0 r h1 pc ls (.int x :: .ref y :: st) h := by
  intro l g p e R s m args below meth c Q A H locs lr hW hS hL hz
  exact lv_dup2_11 A.1 A.2.1 hd rfl rfl (K l g p e R s m args below meth c Q A H locs lr hW hS hL hz)
theorem sn_goto {off : Int} {t : Nat} (ht : (pc : Int) + off = (t : Int)) (hd : decode (tm_b k) pc = .ok (.goto off, 3)) (K : am_wa L xs k h0 r h1 t ls st h) : am_wa L xs k h0 r h1 pc ls st h := by
  intro l g p e R s m args below meth c Q A H locs lr hW hS hL hz
  exact lv_goto A.1 A.2.1 hd ht (K l g p e R s m args below meth c Q A H locs lr hW hS hL hz)
theorem sn_if_eq {x : Int32} {off : Int} {t : Nat} (ht : (pc : Int) + off = (t : Int)) (hd : decode (tm_b k) pc = .ok (.ifCond .eq off, 3)) (K1 : x = 0 → am_wa L xs k h0 r h1 t ls st h) (K2 : ¬ x = 0 → am_wa L xs k h0 r h1 (pc + 3) ls st h) : am_wa L xs k h0 r h1 pc ls (.int x :: st) h := by
  intro l g p e R s m args below meth c Q A H locs lr hW hS hL hz
  exact lv_if_eq A.1 A.2.1 hd ht (fun z => K1 z l g p e R s m args below meth c Q A H locs lr hW hS hL hz) (fun z => K2 z l g p e R s m args below meth c Q A H locs lr hW hS hL hz)
theorem sn_if_ne {x : Int32} {off : Int} {t : Nat} (ht : (pc : Int) + off = (t : Int)) (hd : decode (tm_b k) pc = .ok (.ifCond .ne off, 3)) (K1 : x = 0 → am_wa L xs k h0 r h1 (pc + 3) ls st h) (K2 : ¬ x = 0 → am_wa L xs k h0 r h1 t ls st h) : am_wa L xs k h0 r h1 pc ls (.int x :: st) h := by
  intro l g p e R s m args below meth c Q A H locs lr hW hS hL hz
  exact lv_if_ne A.1 A.2.1 hd ht (fun z => K2 z l g p e R s m args below meth c Q A H locs lr hW hS hL hz) (fun z => K1 z l g p e R s m args below meth c Q A H locs lr hW hS hL hz)
theorem sn_if_lt {x : Int32} {off : Int} {t : Nat} (ht : (pc : Int) + off = (t : Int)) (hd : decode (tm_b k) pc = .ok (.ifCond .lt off, 3)) (K1 : x < 0 → am_wa L xs k h0 r h1 t ls st h) (K2 : ¬ x < 0 → am_wa L xs k h0 r h1 (pc + 3) ls st h) : am_wa L xs k h0 r h1 pc ls (.int x :: st) h := by
  intro l g p e R s m args below meth c Q A H locs lr hW hS hL hz
  exact lv_if_lt A.1 A.2.1 hd ht (fun z => K1 z l g p e R s m args below meth c Q A H locs lr hW hS hL hz) (fun z => K2 z l g p e R s m args below meth c Q A H locs lr hW hS hL hz)
theorem sn_if_ge {x : Int32} {off : Int} {t : Nat} (ht : (pc : Int) + off = (t : Int)) (hd : decode (tm_b k) pc = .ok (.ifCond .ge off, 3)) (K1 : x < 0 → am_wa L xs k h0 r h1 (pc + 3) ls st h) (K2 : ¬ x < 0 → am_wa L xs k h0 r h1 t ls st h) : am_wa L xs k h0 r h1 pc ls (.int x :: st) h := by
  intro l g p e R s m args below meth c Q A H locs lr hW hS hL hz
  exact lv_if_ge A.1 A.2.1 hd ht (fun z => K2 (Int32.not_lt.mpr z) l g p e R s m args below meth c Q A H locs lr hW hS hL hz) (fun z => K1 (Int32.not_le.mp z) l g p e R s m args below meth c Q A H locs lr hW hS hL hz)
theorem sn_if_gt {x : Int32} {off : Int} {t : Nat} (ht : (pc : Int) + off = (t : Int)) (hd : decode (tm_b k) pc = .ok (.ifCond .gt off, 3)) (K1 : 0 < x → am_wa L xs k h0 r h1 t ls st h) (K2 : ¬ 0 < x → am_wa L xs k h0 r h1 (pc + 3) ls st h) : am_wa L xs k h0 r h1 pc ls (.int x :: st) h := by
  intro l g p e R s m args below meth c Q A H locs lr hW hS hL hz
  exact lv_if_gt A.1 A.2.1 hd ht (fun z => K1 z l g p e R s m args below meth c Q A H locs lr hW hS hL hz) (fun z => K2 z l g p e R s m args below meth c Q A H locs lr hW hS hL hz)
theorem sn_if_le {x : Int32} {off : Int} {t : Nat} (ht : (pc : Int) + off = (t : Int)) (hd : decode (tm_b k) pc = .ok (.ifCond .le off, 3)) (K1 : 0 < x → am_wa L xs k h0 r h1 (pc + 3) ls st h) (K2 : ¬ 0 < x → am_wa L xs k h0 r h1 t ls st h) : am_wa L xs k h0 r h1 pc ls (.int x :: st) h := by
  intro l g p e R s m args below meth c Q A H locs lr hW hS hL hz
  exact lv_if_le A.1 A.2.1 hd ht (fun z => K2 (Int32.not_lt.mpr z) l g p e R s m args below meth c Q A H locs lr hW hS hL hz) (fun z => K1 (Int32.not_le.mp z) l g p e R s m args below meth c Q A H locs lr hW hS hL hz)
theorem sn_icmp_eq {x y : Int32} {off : Int} {t : Nat} (ht : (pc : Int) + off = (t : Int)) (hd : decode (tm_b k) pc = .ok (.if_icmp .eq off, 3)) (K1 : x = y → am_wa L xs k h0 r h1 t ls st h) (K2 : ¬ x = y → am_wa L xs k h0 r h1 (pc + 3) ls st h) : am_wa L xs k h0 r h1 pc ls (.int y :: .int x :: st) h := by
  intro l g p e R s m args below meth c Q A H locs lr hW hS hL hz
  exact lv_icmp_eq A.1 A.2.1 hd ht (fun z => K1 z l g p e R s m args below meth c Q A H locs lr hW hS hL hz) (fun z => K2 z l g p e R s m args below meth c Q A H locs lr hW hS hL hz)
theorem sn_icmp_ne {x y : Int32} {off : Int} {t : Nat} (ht : (pc : Int) + off = (t : Int)) (hd : decode (tm_b k) pc = .ok (.if_icmp .ne off, 3)) (K1 : x = y → am_wa L xs k h0 r h1 (pc + 3) ls st h) (K2 : ¬ x = y → am_wa L xs k h0 r h1 t ls st h) : am_wa L xs k h0 r h1 pc ls (.int y :: .int x :: st) h := by
  intro l g p e R s m args below meth c Q A H locs lr hW hS hL hz
  exact lv_icmp_ne A.1 A.2.1 hd ht (fun z => K2 z l g p e R s m args below meth c Q A H locs lr hW hS hL hz) (fun z => K1 z l g p e R s m args below meth c Q A H locs lr hW hS hL hz)
theorem sn_icmp_lt {x y : Int32} {off : Int} {t : Nat} (ht : (pc : Int) + off = (t : Int)) (hd : decode (tm_b k) pc = .ok (.if_icmp .lt off, 3)) (K1 : x < y → am_wa L xs k h0 r h1 t ls st h) (K2 : ¬ x < y → am_wa L xs k h0 r h1 (pc + 3) ls st h) : am_wa L xs k h0 r h1 pc ls (.int y :: .int x :: st) h := by
  intro l g p e R s m args below meth c Q A H locs lr hW hS hL hz
  exact lv_icmp_lt A.1 A.2.1 hd ht (fun z => K1 z l g p e R s m args below meth c Q A H locs lr hW hS hL hz) (fun z => K2 z l g p e R s m args below meth c Q A H locs lr hW hS hL hz)
theorem sn_icmp_ge {x y : Int32} {off : Int} {t : Nat} (ht : (pc : Int) + off = (t : Int)) (hd : decode (tm_b k) pc = .ok (.if_icmp .ge off, 3)) (K1 : x < y → am_wa L xs k h0 r h1 (pc + 3) ls st h) (K2 : ¬ x < y → am_wa L xs k h0 r h1 t ls st h) : am_wa L xs k h0 r h1 pc ls (.int y :: .int x :: st) h := by
  intro l g p e R s m args below meth c Q A H locs lr hW hS hL hz
  exact lv_icmp_ge A.1 A.2.1 hd ht (fun z => K2 (Int32.not_lt.mpr z) l g p e R s m args below meth c Q A H locs lr hW hS hL hz) (fun z => K1 (Int32.not_le.mp z) l g p e R s m args below meth c Q A H locs lr hW hS hL hz)
theorem sn_icmp_gt {x y : Int32} {off : Int} {t : Nat} (ht : (pc : Int) + off = (t : Int)) (hd : decode (tm_b k) pc = .ok (.if_icmp .gt off, 3)) (K1 : y < x → am_wa L xs k h0 r h1 t ls st h) (K2 : ¬ y < x → am_wa L xs k h0 r h1 (pc + 3) ls st h) : am_wa L xs k h0 r h1 pc ls (.int y :: .int x :: st) h := by
  intro l g p e R s m args below meth c Q A H locs lr hW hS hL hz
  exact lv_icmp_gt A.1 A.2.1 hd ht (fun z => K1 z l g p e R s m args below meth c Q A H locs lr hW hS hL hz) (fun z => K2 z l g p e R s m args below meth c Q A H locs lr hW hS hL hz)
theorem sn_icmp_le {x y : Int32} {off : Int} {t : Nat} (ht : (pc : Int) + off = (t : Int)) (hd : decode (tm_b k) pc = .ok (.if_icmp .le off, 3)) (K1 : y < x → am_wa L xs k h0 r h1 (pc + 3) ls st h) (K2 : ¬ y < x → am_wa L xs k h0 r h1 t ls st h) : am_wa L xs k h0 r h1 pc ls (.int y :: .int x :: st) h := by
  intro l g p e R s m args below meth c Q A H locs lr hW hS hL hz
  exact lv_icmp_le A.1 A.2.1 hd ht (fun z => K2 (Int32.not_lt.mpr z) l g p e R s m args below meth c Q A H locs lr hW hS hL hz) (fun z => K1 (Int32.not_le.mp z) l g p e R s m args below meth c Q A H locs lr hW hS hL hz)
theorem sn_swIn {dflt lo hi : Int} {offs : Array Int} {len : Nat} {x : Int32} {off : Int} {t : Nat} (hd : decode (tm_b k) pc = .ok (.tableswitch dflt lo hi offs, len)) (g1 : ¬ x.toInt < lo) (g2 : ¬ hi < x.toInt) (ho : offs[(x.toInt - lo).toNat]? = some off) (ht : (pc : Int) + off = (t : Int)) (K : am_wa L xs k h0 r h1 t ls st h) : am_wa L xs k h0 r h1 pc ls (.int x :: st) h := by
  intro l g p e R s m args below meth c Q A H locs lr hW hS hL hz
  exact lv_tableIn A.1 A.2.1 hd g1 g2 ho ht (K l g p e R s m args below meth c Q A H locs lr hW hS hL hz)
theorem sn_swOut {dflt lo hi : Int} {offs : Array Int} {len : Nat} {x : Int32} {t : Nat} (hd : decode (tm_b k) pc = .ok (.tableswitch dflt lo hi offs, len)) (g1 : x.toInt < lo ∨ hi < x.toInt) (ht : (pc : Int) + dflt = (t : Int)) (K : am_wa L xs k h0 r h1 t ls st h) : am_wa L xs k h0 r h1 pc ls (.int x :: st) h := by
  intro l g p e R s m args below meth c Q A H locs lr hW hS hL hz
  exact lv_tableOut A.1 A.2.1 hd g1 ht (K l g p e R s m args below meth c Q A H locs lr hW hS hL hz)
end SN
