/-! ONE STEP OF THE ABSTRACT MACHINE IS ONE OF THE REAL ONE; CHUNKS -/
def am_Al (k : Nat) (h0 : am_H) (h : am_H) (n m : Nat) : Prop := h.1 + n ≤ h0.1 + tm_mc k ∧ h.2.1 + m ≤ h0.2.1 + tm_ms k
def am_Rt (r : Option Int32) (h1 : am_H) (r' : Option Int32) (h' : am_H) : Prop := r' = r ∧ h' = h1
section ST
variable {L : Nat} {xs : Nat → Int32} {k : Nat} {h0 h1 h : am_H} {r : Option Int32} {K : Nat → List Value → List Value → am_H → Prop} {pc : Nat} {ls st : List Value}
theorem am_wd_gt {pos : Nat} {w : Cond} (h : lw_tbl[pos]? = some w) (g : goodWord w = true) : w ∈ am_gt := am_gt_of (List.mem_of_getElem? h) g
theorem am_snd_call (hmk : ∀ k', k' < 169 → am_mk k') {index op : Nat} {aux : List Nat} (hc : am_ckC k op index aux = true) (hop : (op = 0 ∧ decode (tm_b k) pc = .ok (.invokestatic index, 3)) ∨ (op = 1 ∧ decode (tm_b k) pc = .ok (.invokevirtual index, 3)) ∨ (op = 2 ∧ decode (tm_b k) pc = .ok (.invokespecial index, 3)))
    (hK : ∀ pc ls st h, K pc ls st h → am_wa L xs k h0 r h1 pc ls st h) (hs : am_call (am_ok L xs) (am_Al k h0) tm_mcs K (pc + 3) aux ls st h) : am_wa L xs k h0 r h1 pc ls st h := by
  obtain ⟨⟨c1, c2, c3⟩, ⟨c4, c5⟩, c6, c7⟩ := of_decide_eq_true hc
  have hm := hmk _ c1
  have hlk : am_lk k index (am_x aux 1) := by
    split at c6
    · exact Or.inl (am_wd_gt c6 rfl)
    · exact Or.inr ⟨_, c6⟩
  unfold am_call at hs
  split at hs
  · exact hs.elim
  · rename_i as rest e
    obtain ⟨tk, e1, e2, e3⟩ := am_pop_inv _ _ _ _ _ e
    rw [List.append_nil] at e2
    have est : st = as.reverse ++ rest := by rw [e2, List.reverse_reverse]; exact e1
    have elen : as.length = am_x aux 2 := by rw [e2, List.length_reverse]; exact e3
    subst est
    have hop' : (op = 0 ∧ decode (tm_b k) pc = .ok (.invokestatic index, 3) ∧ tm_kd (am_x aux 1) = 0 ∧ as.length = tm_n (am_x aux 1)) ∨ (op = 1 ∧ decode (tm_b k) pc = .ok (.invokevirtual index, 3) ∧ tm_kd (am_x aux 1) = 1 ∧ as.length = tm_n (am_x aux 1) + 1) ∨ (op = 2 ∧ decode (tm_b k) pc = .ok (.invokespecial index, 3) ∧ tm_kd (am_x aux 1) = 2 ∧ as.length = tm_n (am_x aux 1) + 1) := by
      rcases hop with ⟨rfl, q⟩ | ⟨rfl, q⟩ | ⟨rfl, q⟩
      · exact Or.inl ⟨rfl, q, c3, by rw [elen, c2]; rfl⟩
      · exact Or.inr (Or.inl ⟨rfl, q, c3, by rw [elen, c2]; rfl⟩)
      · exact Or.inr (Or.inr ⟨rfl, q, c3, by rw [elen, c2]; rfl⟩)
    split at hs
    · exact hs.elim
    · rename_i eb
      have hle := Nat.le_of_ble_eq_true eb
      split at hs
      · rename_i e0
        obtain ⟨h', hok, hk⟩ := hs
        have hz := c7 (by omega)
        exact sn_call (r' := none) (st1 := rest) hm hlk c4 c5 hle hop' hok (fun z => by have q1 := hok.1.2.1; have q2 := hok.1.2.2; have z1 := z.1.2; have z2 := z.2.2; omega) rfl (hK _ _ _ _ hk)
      · rename_i e0
        obtain ⟨x, h', hok, hk⟩ := hs
        have hz := c7 (by omega)
        exact sn_call (r' := some x) (st1 := .int x :: rest) hm hlk c4 c5 hle hop' hok (fun z => by have q1 := hok.1.2.1; have q2 := hok.1.2.2; have z1 := z.1.2; have z2 := z.2.2; omega) rfl (hK _ _ _ _ hk)
      · obtain ⟨h', ⟨hok, hal⟩, hk⟩ := hs
        exact sn_call (r' := none) (st1 := rest) hm hlk c4 c5 hle hop' hok (fun z => by have q1 := hok.1.2.1; have q2 := hok.1.2.2; have a1 : h.1 + tm_mc (am_x aux 1) ≤ h0.1 + tm_mc k := hal.1; have a2 : h.2.1 + tm_ms (am_x aux 1) ≤ h0.2.1 + tm_ms k := hal.2; omega) rfl (hK _ _ _ _ hk)
theorem am_ckF_inv {pos idx ci j : Nat} (hc : am_ckF k pos idx ci j = true) : ci < 6 ∧ j < am_N ci ∧ Cond.fieldLink (tm_y k).cls idx (am_cn ci) (am_T ci j).2.1 (am_T ci j).2.2.1 ∈ am_gt ∧ (am_T ci j).1 = am_cn ci := by
  obtain ⟨c1, c2, c3, c4⟩ := of_decide_eq_true hc
  exact ⟨c1, c2, am_wd_gt c4 rfl, c3⟩
theorem am_and {a b : Bool} (h : (a && b) = true) : a = true ∧ b = true := by
  cases a <;> cases b <;> first | exact ⟨rfl, rfl⟩ | cases h
theorem am_nar_ref (g : am_G) {ty : FieldType} (h : ty.isReference = true) (v : Nat) : narrow ty (am_v g (.ref v)) = am_v g (.ref v) ∧ fits ty (am_v g (.ref v)) = true := by
  cases ty <;> first | exact ⟨rfl, rfl⟩ | cases h
theorem am_nar_bool (g : am_G) {x : Int32} (hx : x = 0 ∨ x = 1) : narrow .boolean (am_v g (.int x)) = am_v g (.int x) ∧ fits .boolean (am_v g (.int x)) = true := by
  show narrow .boolean (.int x) = .int x ∧ fits .boolean (.int x) = true
  rcases hx with rfl | rfl <;> decide +kernel
theorem am_rng {a lo hi : Nat} (h : (Nat.ble lo a && Nat.ble a hi) = true) : lo ≤ a ∧ a ≤ hi := by
  obtain ⟨q1, q2⟩ := am_and h
  exact ⟨Nat.le_of_ble_eq_true q1, Nat.le_of_ble_eq_true q2⟩
set_option maxHeartbeats 4000000 in
theorem am_snd (hmk : ∀ k', k' < 169 → am_mk k') (hk : am_okk k) (hK : ∀ pc ls st h, K pc ls st h → am_wa L xs k h0 r h1 pc ls st h) (hs : am_s L xs am_cn am_df (tm_k k) (tm_rt k) (am_ok L xs) (am_Al k h0) tm_mcs (am_Rt r h1) K pc ls st h) : am_wa L xs k h0 r h1 pc ls st h := by
  unfold am_s at hs
  split at hs
  · exact hs.elim
  · rename_i i n aux imm e
    obtain ⟨hd, hc⟩ := hk _ (am_fetch_in _ _ _ e)
    replace hd : decode (tm_b k) pc = .ok (i, n) := hd
    cases i
    case iconst v =>
      obtain ⟨rfl, hv⟩ : n = 1 ∧ Int32.ofInt v = imm := of_decide_eq_true hc
      exact sn_iconst hv hd (hK _ _ _ _ hs)
    case bipush v =>
      obtain ⟨rfl, hv⟩ : n = 2 ∧ (Int8.ofInt v).toInt32 = imm := of_decide_eq_true hc
      exact sn_bipush hv hd (hK _ _ _ _ hs)
    case sipush v =>
      obtain ⟨rfl, hv⟩ : n = 3 ∧ (Int16.ofInt v).toInt32 = imm := of_decide_eq_true hc
      exact sn_sipush hv hd (hK _ _ _ _ hs)
    case ldc_w j =>
      obtain ⟨rfl, hv⟩ : n = 3 ∧ Cond.constant (tm_y k).cls j imm ∈ am_cst := of_decide_eq_true hc
      exact sn_ldcw (am_gt_of (am_cst_in _ hv) rfl) hd (hK _ _ _ _ hs)
    case ldc j =>
      cases aux with
      | nil =>
        obtain ⟨rfl, hv⟩ : n = 2 ∧ Cond.constant (tm_y k).cls j imm ∈ am_cst := of_decide_eq_true hc
        exact sn_ldc (am_gt_of (am_cst_in _ hv) rfl) hd (hK _ _ _ _ hs)
      | cons a aux =>
        obtain ⟨rfl, ⟨g1, g2⟩, hv, ho⟩ : n = 2 ∧ (1000001 ≤ a ∧ a < 1000005) ∧ am_si (a - 1000001) = j ∧ (tm_y k).cls = RX3 := of_decide_eq_true hc
        have hs2 := hK _ _ _ _ hs
        rw [show a = 1000001 + (a - 1000001) by omega] at hs2
        exact sn_ldcs (by omega) hv ho hd hs2
    case lconst v =>
      obtain ⟨rfl, hv⟩ : n = 1 ∧ Int64.ofNat v.val = imm.toInt64 := of_decide_eq_true hc
      exact sn_lconst hv hd (hK _ _ _ _ hs)
    case ldc2_w j =>
      obtain ⟨rfl, hv⟩ : n = 3 ∧ Cond.constantLong (tm_y k).cls j imm.toInt64 ∈ am_cst := of_decide_eq_true hc
      exact sn_ldc2 (am_gt_of (am_cst_in _ hv) rfl) hd (hK _ _ _ _ hs)
    case iload_n j =>
      obtain ⟨rfl, hj⟩ : n = 1 ∧ j.val = am_x aux 0 := of_decide_eq_true hc
      obtain ⟨x, hx, hk2⟩ := am_ldi_inv hs
      exact sn_iload_n hj hx hd (hK _ _ _ _ hk2)
    case iload j =>
      obtain ⟨rfl, hj⟩ : n = 2 ∧ j = am_x aux 0 := of_decide_eq_true hc
      obtain ⟨x, hx, hk2⟩ := am_ldi_inv hs
      rw [hj] at hd
      exact sn_iload hx hd (hK _ _ _ _ hk2)
    case lload_n j =>
      obtain ⟨rfl, hj⟩ : n = 1 ∧ j.val = am_x aux 0 := of_decide_eq_true hc
      obtain ⟨x, hx, hk2⟩ := am_ldl_inv hs
      exact sn_lload_n hj hx hd (hK _ _ _ _ hk2)
    case lload j =>
      obtain ⟨rfl, hj⟩ : n = 2 ∧ j = am_x aux 0 := of_decide_eq_true hc
      obtain ⟨x, hx, hk2⟩ := am_ldl_inv hs
      rw [hj] at hd
      exact sn_lload hx hd (hK _ _ _ _ hk2)
    case aload_n j =>
      obtain ⟨rfl, hj⟩ : n = 1 ∧ j.val = am_x aux 0 := of_decide_eq_true hc
      obtain ⟨x, hx, hk2⟩ := am_ldr_inv hs
      exact sn_aload_n hj hx hd (hK _ _ _ _ hk2)
    case istore_n j =>
      obtain ⟨rfl, hj, hl⟩ : n = 1 ∧ j.val = am_x aux 0 ∧ am_x aux 0 < tm_ml k := of_decide_eq_true hc
      obtain ⟨hn, hs⟩ := am_if_inv hs
      obtain ⟨x, s, rfl, hk2⟩ := am_1_inv hs
      exact sn_istore_n hj hl hn hd (hK _ _ _ _ hk2)
    case istore j =>
      obtain ⟨rfl, hj, hl⟩ : n = 2 ∧ j = am_x aux 0 ∧ am_x aux 0 < tm_ml k := of_decide_eq_true hc
      obtain ⟨hn, hs⟩ := am_if_inv hs
      obtain ⟨x, s, rfl, hk2⟩ := am_1_inv hs
      rw [hj] at hd
      exact sn_istore hl hn hd (hK _ _ _ _ hk2)
    case astore_n j =>
      obtain ⟨rfl, hj, hl⟩ : n = 1 ∧ j.val = am_x aux 0 ∧ am_x aux 0 < tm_ml k := of_decide_eq_true hc
      obtain ⟨hn, hs⟩ := am_if_inv hs
      obtain ⟨x, s, rfl, hk2⟩ := am_r_inv hs
      exact sn_astore_n hj hl hn hd (hK _ _ _ _ hk2)
    case iinc j v =>
      obtain ⟨rfl, hj, hl, hv⟩ : n = 3 ∧ j = am_x aux 0 ∧ am_x aux 0 < tm_ml k ∧ Int32.ofInt v = imm := of_decide_eq_true hc
      obtain ⟨hn, hs⟩ := am_if_inv hs
      obtain ⟨x, hx, hk2⟩ := am_ldi_inv hs
      rw [hj] at hd
      exact sn_iinc hl hn hx hv hd (hK _ _ _ _ hk2)
    case iadd =>
      obtain rfl : n = 1 := of_decide_eq_true hc
      obtain ⟨x, y, s, rfl, hk2⟩ := am_2_inv hs
      exact sn_iadd hd (hK _ _ _ _ hk2)
    case isub =>
      obtain rfl : n = 1 := of_decide_eq_true hc
      obtain ⟨x, y, s, rfl, hk2⟩ := am_2_inv hs
      exact sn_isub hd (hK _ _ _ _ hk2)
    case imul =>
      obtain rfl : n = 1 := of_decide_eq_true hc
      obtain ⟨x, y, s, rfl, hk2⟩ := am_2_inv hs
      exact sn_imul hd (hK _ _ _ _ hk2)
    case iand =>
      obtain rfl : n = 1 := of_decide_eq_true hc
      obtain ⟨x, y, s, rfl, hk2⟩ := am_2_inv hs
      exact sn_iand hd (hK _ _ _ _ hk2)
    case ior =>
      obtain rfl : n = 1 := of_decide_eq_true hc
      obtain ⟨x, y, s, rfl, hk2⟩ := am_2_inv hs
      exact sn_ior hd (hK _ _ _ _ hk2)
    case ixor =>
      obtain rfl : n = 1 := of_decide_eq_true hc
      obtain ⟨x, y, s, rfl, hk2⟩ := am_2_inv hs
      exact sn_ixor hd (hK _ _ _ _ hk2)
    case ishl =>
      obtain rfl : n = 1 := of_decide_eq_true hc
      obtain ⟨x, y, s, rfl, hk2⟩ := am_2_inv hs
      exact sn_ishl hd (hK _ _ _ _ hk2)
    case ishr =>
      obtain rfl : n = 1 := of_decide_eq_true hc
      obtain ⟨x, y, s, rfl, hk2⟩ := am_2_inv hs
      exact sn_ishr hd (hK _ _ _ _ hk2)
    case iushr =>
      obtain rfl : n = 1 := of_decide_eq_true hc
      obtain ⟨x, y, s, rfl, hk2⟩ := am_2_inv hs
      exact sn_iushr hd (hK _ _ _ _ hk2)
    case idiv =>
      obtain rfl : n = 1 := of_decide_eq_true hc
      obtain ⟨x, y, s, rfl, hy, hk2⟩ := am_2_inv hs
      exact sn_idiv hy hd (hK _ _ _ _ hk2)
    case irem =>
      obtain rfl : n = 1 := of_decide_eq_true hc
      obtain ⟨x, y, s, rfl, hy, hk2⟩ := am_2_inv hs
      exact sn_irem hy hd (hK _ _ _ _ hk2)
    case ineg =>
      obtain rfl : n = 1 := of_decide_eq_true hc
      obtain ⟨x, s, rfl, hk2⟩ := am_1_inv hs
      exact sn_ineg hd (hK _ _ _ _ hk2)
    case i2l =>
      obtain rfl : n = 1 := of_decide_eq_true hc
      obtain ⟨x, s, rfl, hk2⟩ := am_1_inv hs
      exact sn_i2l hd (hK _ _ _ _ hk2)
    case i2c =>
      obtain rfl : n = 1 := of_decide_eq_true hc
      obtain ⟨x, s, rfl, hk2⟩ := am_1_inv hs
      exact sn_i2c hd (hK _ _ _ _ hk2)
    case lcmp =>
      obtain rfl : n = 1 := of_decide_eq_true hc
      obtain ⟨x, y, s, rfl, hk2⟩ := am_l2_inv hs
      exact sn_lcmp hd (hK _ _ _ _ hk2)
    case dup =>
      obtain rfl : n = 1 := of_decide_eq_true hc
      replace hs : am_any st (fun v s => K (pc + 1) ls (v :: v :: s) h) := hs
      unfold am_any at hs
      split at hs
      · exact sn_dup_int hd (hK _ _ _ _ hs)
      · exact sn_dup_ref hd (hK _ _ _ _ hs)
      · exact hs.elim
    case pop =>
      obtain rfl : n = 1 := of_decide_eq_true hc
      replace hs : am_any st (fun _ s => K (pc + 1) ls s h) := hs
      unfold am_any at hs
      split at hs
      · exact sn_pop_int hd (hK _ _ _ _ hs)
      · exact sn_pop_ref hd (hK _ _ _ _ hs)
      · exact hs.elim
    case dup2 =>
      obtain rfl : n = 1 := of_decide_eq_true hc
      replace hs : am_any2 st (fun v w s => K (pc + 1) ls (v :: w :: v :: w :: s) h) := hs
      unfold am_any2 at hs
      split at hs
      · exact sn_dup2_int hd (hK _ _ _ _ hs)
      · exact sn_dup2_ref hd (hK _ _ _ _ hs)
      · exact hs.elim
    case goto off =>
      obtain ⟨rfl, ht⟩ : n = 3 ∧ (pc : Int) + off = (am_x aux 0 : Int) := of_decide_eq_true hc
      exact sn_goto ht hd (hK _ _ _ _ hs)
    case ifCond cond off =>
      obtain ⟨rfl, ht⟩ : n = 3 ∧ (pc : Int) + off = (am_x aux 0 : Int) := of_decide_eq_true hc
      cases cond
      case eq =>
        obtain ⟨x, s, rfl, hk2⟩ := am_1_inv hs
        exact sn_if_eq ht hd (fun z => hK _ _ _ _ (by simpa only [if_pos z] using hk2)) (fun z => hK _ _ _ _ (by simpa only [if_neg z] using hk2))
      case ne =>
        obtain ⟨x, s, rfl, hk2⟩ := am_1_inv hs
        exact sn_if_ne ht hd (fun z => hK _ _ _ _ (by simpa only [if_pos z] using hk2)) (fun z => hK _ _ _ _ (by simpa only [if_neg z] using hk2))
      case lt =>
        obtain ⟨x, s, rfl, hk2⟩ := am_1_inv hs
        exact sn_if_lt ht hd (fun z => hK _ _ _ _ (by simpa only [if_pos z] using hk2)) (fun z => hK _ _ _ _ (by simpa only [if_neg z] using hk2))
      case ge =>
        obtain ⟨x, s, rfl, hk2⟩ := am_1_inv hs
        exact sn_if_ge ht hd (fun z => hK _ _ _ _ (by simpa only [if_pos z] using hk2)) (fun z => hK _ _ _ _ (by simpa only [if_neg z] using hk2))
      case gt =>
        obtain ⟨x, s, rfl, hk2⟩ := am_1_inv hs
        exact sn_if_gt ht hd (fun z => hK _ _ _ _ (by simpa only [if_pos z] using hk2)) (fun z => hK _ _ _ _ (by simpa only [if_neg z] using hk2))
      case le =>
        obtain ⟨x, s, rfl, hk2⟩ := am_1_inv hs
        exact sn_if_le ht hd (fun z => hK _ _ _ _ (by simpa only [if_pos z] using hk2)) (fun z => hK _ _ _ _ (by simpa only [if_neg z] using hk2))
    case if_icmp cond off =>
      obtain ⟨rfl, ht⟩ : n = 3 ∧ (pc : Int) + off = (am_x aux 0 : Int) := of_decide_eq_true hc
      cases cond
      case eq =>
        obtain ⟨x, y, s, rfl, hk2⟩ := am_2_inv hs
        exact sn_icmp_eq ht hd (fun z => hK _ _ _ _ (by simpa only [if_pos z] using hk2)) (fun z => hK _ _ _ _ (by simpa only [if_neg z] using hk2))
      case ne =>
        obtain ⟨x, y, s, rfl, hk2⟩ := am_2_inv hs
        exact sn_icmp_ne ht hd (fun z => hK _ _ _ _ (by simpa only [if_pos z] using hk2)) (fun z => hK _ _ _ _ (by simpa only [if_neg z] using hk2))
      case lt =>
        obtain ⟨x, y, s, rfl, hk2⟩ := am_2_inv hs
        exact sn_icmp_lt ht hd (fun z => hK _ _ _ _ (by simpa only [if_pos z] using hk2)) (fun z => hK _ _ _ _ (by simpa only [if_neg z] using hk2))
      case ge =>
        obtain ⟨x, y, s, rfl, hk2⟩ := am_2_inv hs
        exact sn_icmp_ge ht hd (fun z => hK _ _ _ _ (by simpa only [if_pos z] using hk2)) (fun z => hK _ _ _ _ (by simpa only [if_neg z] using hk2))
      case gt =>
        obtain ⟨x, y, s, rfl, hk2⟩ := am_2_inv hs
        exact sn_icmp_gt ht hd (fun z => hK _ _ _ _ (by simpa only [if_pos z] using hk2)) (fun z => hK _ _ _ _ (by simpa only [if_neg z] using hk2))
      case le =>
        obtain ⟨x, y, s, rfl, hk2⟩ := am_2_inv hs
        exact sn_icmp_le ht hd (fun z => hK _ _ _ _ (by simpa only [if_pos z] using hk2)) (fun z => hK _ _ _ _ (by simpa only [if_neg z] using hk2))
    case tableswitch d lo hi offs =>
      obtain ⟨rfl, hhi, ht, hsw⟩ : lo = 0 ∧ hi + 1 = (offs.toList.length : Int) ∧ (pc : Int) + d = (am_x aux 0 : Int) ∧ am_swk pc 0 aux.tail offs.toList = true := of_decide_eq_true hc
      obtain ⟨x, s, rfl, hk2⟩ := am_1_inv hs
      rcases am_sw_inv _ _ 0 hsw hk2 with ⟨i, o, t, e1, e2, e3, e4⟩ | ⟨e1, e2⟩
      · have hi2 : i < offs.toList.length := (List.getElem?_eq_some_iff.mp e1).1
        rw [Nat.zero_add] at e2
        refine sn_swIn hd (by omega) (by omega) (off := o) ?_ e3 (hK _ _ _ _ e4)
        rw [e2, show ((i : Int) - 0).toNat = i by omega, ← Array.getElem?_toList]
        exact e1
      · exact sn_swOut hd (by omega) ht (hK _ _ _ _ e2)
    case getfield j =>
      replace hs := hs
      generalize hkd : am_x aux 2 = kd at *
      match kd, hkd with
      | 0, hkd =>
        have hc2 : (decide (n = 3) && am_ckF k (am_x aux 3) j (am_x aux 0) (am_x aux 1)) = true := by simpa only [am_ck, hkd] using hc
        have hs2 : am_r st (fun a s => am_b (am_gI h a (am_x aux 0) (am_x aux 1)) (fun x => K (pc + n) ls (.int x :: s) h)) := by simpa only [am_i, hkd] using hs
        obtain ⟨q1, q2⟩ := am_and hc2
        obtain rfl := of_decide_eq_true q1
        obtain ⟨c1, c2, c3, c4⟩ := am_ckF_inv q2
        obtain ⟨a, s, rfl, hb⟩ := am_r_inv hs2
        obtain ⟨x, hx, hk2⟩ := am_b_inv hb
        obtain ⟨fs, f1, f2⟩ := am_gI_inv hx
        exact sn_get c1 c2 c3 c4 hd f1 f2 (hK _ _ _ _ hk2)
      | 1, hkd =>
        have hc2 : (decide (n = 3) && am_ckF k (am_x aux 3) j (am_x aux 0) (am_x aux 1)) = true := by simpa only [am_ck, hkd] using hc
        have hs2 : am_r st (fun a s => am_b (am_gR h a (am_x aux 0) (am_x aux 1)) (fun x => K (pc + n) ls (.ref x :: s) h)) := by simpa only [am_i, hkd] using hs
        obtain ⟨q1, q2⟩ := am_and hc2
        obtain rfl := of_decide_eq_true q1
        obtain ⟨c1, c2, c3, c4⟩ := am_ckF_inv q2
        obtain ⟨a, s, rfl, hb⟩ := am_r_inv hs2
        obtain ⟨x, hx, hk2⟩ := am_b_inv hb
        obtain ⟨fs, f1, f2⟩ := am_gR_inv hx
        exact sn_get c1 c2 c3 c4 hd f1 f2 (hK _ _ _ _ hk2)
      | 3, hkd =>
        have hc2 : decide (n = 3 ∧ lw_tbl[am_x aux 3]? = some (.fieldLink (tm_y k).cls j "java/lang/String" "value" "[B")) = true := by simpa only [am_ck, hkd] using hc
        have hs2 : am_r st (fun a s => am_if (Nat.ble 1000001 a && Nat.ble a 1000004) (K (pc + n) ls (.ref (a + 10) :: s) h)) := by simpa only [am_i, hkd] using hs
        obtain ⟨rfl, c1⟩ := of_decide_eq_true hc2
        obtain ⟨a, s, rfl, hb⟩ := am_r_inv hs2
        obtain ⟨hr, hk2⟩ := am_if_inv hb
        obtain ⟨r1, r2⟩ := am_rng hr
        have hk3 := hK _ _ _ _ hk2
        obtain ⟨b, rfl⟩ : ∃ b : Nat, a = 1000000 + (1 + b) := ⟨a - 1000001, by omega⟩
        rw [show 1000000 + (1 + b) + 10 = 1000000 + (11 + b) by omega] at hk3
        exact sn_getsv (by omega) (am_wd_gt c1 rfl) hd hk3
      | 2, hkd =>
        have hc2 : decide (n = 3 ∧ lw_tbl[am_x aux 3]? = some (.fieldLink (tm_y k).cls j "java/lang/String" "coder" "B")) = true := by simpa only [am_ck, hkd] using hc
        have hs2 : am_r st (fun a s => am_if (Nat.ble 1000001 a && Nat.ble a 1000004) (K (pc + n) ls (.int 0 :: s) h)) := by simpa only [am_i, hkd] using hs
        obtain ⟨rfl, c1⟩ := of_decide_eq_true hc2
        obtain ⟨a, s, rfl, hb⟩ := am_r_inv hs2
        obtain ⟨hr, hk2⟩ := am_if_inv hb
        obtain ⟨r1, r2⟩ := am_rng hr
        obtain ⟨b, rfl⟩ : ∃ b : Nat, a = 1000000 + (1 + b) := ⟨a - 1000001, by omega⟩
        exact sn_getsc (by omega) (am_wd_gt c1 rfl) hd (hK _ _ _ _ hk2)
      | kd + 4, hkd =>
        have hc2 : decide (n = 3 ∧ lw_tbl[am_x aux 3]? = some (.fieldLink (tm_y k).cls j "java/lang/String" "coder" "B")) = true := by simpa only [am_ck, hkd] using hc
        have hs2 : am_r st (fun a s => am_if (Nat.ble 1000001 a && Nat.ble a 1000004) (K (pc + n) ls (.int 0 :: s) h)) := by simpa only [am_i, hkd] using hs
        obtain ⟨rfl, c1⟩ := of_decide_eq_true hc2
        obtain ⟨a, s, rfl, hb⟩ := am_r_inv hs2
        obtain ⟨hr, hk2⟩ := am_if_inv hb
        obtain ⟨r1, r2⟩ := am_rng hr
        obtain ⟨b, rfl⟩ : ∃ b : Nat, a = 1000000 + (1 + b) := ⟨a - 1000001, by omega⟩
        exact sn_getsc (by omega) (am_wd_gt c1 rfl) hd (hK _ _ _ _ hk2)
    case putfield j =>
      generalize hkd : am_x aux 2 = kd at *
      have hc2 : (decide (n = 3) && am_ckF k (am_x aux 3) j (am_x aux 0) (am_x aux 1) && decide ((am_T (am_x aux 0) (am_x aux 1)).2.2.2 = false ∨ (tm_kd k = 2 ∧ (tm_y k).cls = am_cn (am_x aux 0)))) = true := (am_and hc).1
      have hc3 := (am_and hc).2
      obtain ⟨q12, q3⟩ := am_and hc2
      obtain ⟨q1, q2⟩ := am_and q12
      obtain rfl := of_decide_eq_true q1
      obtain ⟨c1, c2, c3, c4⟩ := am_ckF_inv q2
      have hfin := of_decide_eq_true q3
      match kd, hkd with
      | 0, hkd =>
        rw [hkd] at hc3
        have hty := of_decide_eq_true hc3
        have hs2 : am_ri st (fun a x s => am_b (am_pF h a (am_x aux 0) (am_x aux 1) (.int x)) (fun h' => K (pc + 3) ls s h')) := by simpa only [am_i, hkd] using hs
        obtain ⟨a, x, s, rfl, hb⟩ := am_ri_inv hs2
        obtain ⟨h', hx, hk2⟩ := am_b_inv hb
        obtain ⟨fs, f1, f2, rfl⟩ := am_pF_inv hx
        exact sn_put c1 c2 c3 c4 hfin (fun g => by rw [hty]; exact ⟨rfl, rfl⟩) hd f1 f2 (hK _ _ _ _ hk2)
      | 1, hkd =>
        rw [hkd] at hc3
        have hs2 : am_rr2 st (fun a v s => am_b (am_pF h a (am_x aux 0) (am_x aux 1) (.ref v)) (fun h' => K (pc + 3) ls s h')) := by simpa only [am_i, hkd] using hs
        obtain ⟨a, x, s, rfl, hb⟩ := am_rr2_inv hs2
        obtain ⟨h', hx, hk2⟩ := am_b_inv hb
        obtain ⟨fs, f1, f2, rfl⟩ := am_pF_inv hx
        exact sn_put c1 c2 c3 c4 hfin (fun g => am_nar_ref g hc3 x) hd f1 f2 (hK _ _ _ _ hk2)
      | kd + 2, hkd =>
        rw [hkd] at hc3
        have hty := of_decide_eq_true hc3
        have hs2 : am_ri st (fun a x s => (x = 0 ∨ x = 1) ∧ am_b (am_pF h a (am_x aux 0) (am_x aux 1) (.int x)) (fun h' => K (pc + 3) ls s h')) := by simpa only [am_i, hkd] using hs
        obtain ⟨a, x, s, rfl, h01, hb⟩ := am_ri_inv hs2
        obtain ⟨h', hx, hk2⟩ := am_b_inv hb
        obtain ⟨fs, f1, f2, rfl⟩ := am_pF_inv hx
        exact sn_put c1 c2 c3 c4 hfin (fun g => by rw [hty]; exact am_nar_bool g h01) hd f1 f2 (hK _ _ _ _ hk2)
    case getstatic j =>
      generalize hkd : am_x aux 0 = kd at *
      match kd, hkd with
      | 0, hkd =>
        have hc2 : decide (n = 3 ∧ imm = 1 ∧ lw_tbl[am_x aux 2]? = some (.fieldLink (tm_y k).cls j "java/lang/String" "COMPACT_STRINGS" "Z")) = true := by simpa only [am_ck, hkd] using hc
        have hs2 : K (pc + n) ls (.int imm :: st) h := by simpa only [am_i, hkd] using hs
        obtain ⟨rfl, rfl, c1⟩ := of_decide_eq_true hc2
        exact sn_gets0 (am_wd_gt c1 rfl) hd (hK _ _ _ _ hs2)
      | kd + 1, hkd =>
        have hc2 : decide (n = 3 ∧ lw_tbl[am_x aux 2]? = some (.fieldLink (tm_y k).cls j "jdk/internal/util/Preconditions" "SIOOBE_FORMATTER" "Ljava/util/function/BiFunction;")) = true := by simpa only [am_ck, hkd] using hc
        have hs2 : K (pc + n) ls (.retAddr 0 :: st) h := by simpa only [am_i, hkd] using hs
        obtain ⟨rfl, c1⟩ := of_decide_eq_true hc2
        exact sn_gets1 (am_wd_gt c1 rfl) hd (hK _ _ _ _ hs2)
    case iaload =>
      obtain rfl : n = 1 := of_decide_eq_true hc
      cases aux with
      | nil =>
        obtain ⟨a, i, s, rfl, hb⟩ := am_ri_inv hs
        obtain ⟨x, hx, hk2⟩ := am_b_inv hb
        exact sn_iald hd hx (hK _ _ _ _ hk2)
      | cons a aux =>
        obtain ⟨a, i, s, rfl, hb⟩ := am_ri_inv hs
        obtain ⟨ha, hin, hk2⟩ := am_if_inv hb
        obtain rfl := Nat.eq_of_beq_eq_true ha
        exact sn_scr hd hin (hK _ _ _ _ hk2)
    case baload =>
      obtain rfl : n = 1 := of_decide_eq_true hc
      cases aux with
      | nil =>
        obtain ⟨a, i, s, rfl, hb⟩ := am_ri_inv hs
        obtain ⟨x, hx, hk2⟩ := am_b_inv hb
        exact sn_zald hd hx (hK _ _ _ _ hk2)
      | cons a aux =>
        obtain ⟨a, i, s, rfl, hb⟩ := am_ri_inv hs
        obtain ⟨ha, hin, hk2⟩ := am_if_inv hb
        obtain ⟨r1, r2⟩ := am_rng ha
        obtain ⟨b, rfl⟩ : ∃ b : Nat, a = 1000000 + (11 + b) := ⟨a - 1000011, by omega⟩
        rw [show 1000000 + (11 + b) - 1000011 = b by omega] at hin hk2
        exact sn_bald (by omega) hd hin (hK _ _ _ _ hk2)
    case aaload =>
      obtain ⟨rfl, c1⟩ : n = 1 ∧ (am_x aux 0 = 0 ∨ am_x aux 0 = 2) := of_decide_eq_true hc
      obtain ⟨a, i, s, rfl, hb⟩ := am_ri_inv hs
      obtain ⟨x, hx, hk2⟩ := am_b_inv hb
      exact sn_aald c1 hd hx (hK _ _ _ _ hk2)
    case iastore =>
      obtain rfl : n = 1 := of_decide_eq_true hc
      obtain ⟨a, i, x, s, rfl, hb⟩ := am_rii_inv hs
      obtain ⟨h', hx, hk2⟩ := am_b_inv hb
      exact sn_iast hd hx (hK _ _ _ _ hk2)
    case bastore =>
      obtain rfl : n = 1 := of_decide_eq_true hc
      obtain ⟨a, i, x, s, rfl, h01, hb⟩ := am_rii_inv hs
      obtain ⟨h', hx, hk2⟩ := am_b_inv hb
      exact sn_zast h01 hd hx (hK _ _ _ _ hk2)
    case aastore =>
      obtain ⟨rfl, c1⟩ : n = 1 ∧ (am_x aux 0 = 0 ∨ am_x aux 0 = 2) := of_decide_eq_true hc
      obtain ⟨a, i, v, s, rfl, hb⟩ := am_rir_inv hs
      obtain ⟨h', hx, hk2⟩ := am_b_inv hb
      exact sn_aast c1 hd hx (hK _ _ _ _ hk2)
    case arraylength =>
      obtain rfl : n = 1 := of_decide_eq_true hc
      match aux, hs with
      | [], hs =>
        obtain ⟨a, s, rfl, hb⟩ := am_r_inv hs
        obtain ⟨x, hx, hk2⟩ := am_b_inv hb
        exact sn_alen hd hx (hK _ _ _ _ hk2)
      | [_], hs =>
        obtain ⟨a, s, rfl, hb⟩ := am_r_inv hs
        obtain ⟨ha, hk2⟩ := am_if_inv hb
        obtain rfl := Nat.eq_of_beq_eq_true ha
        exact sn_scl hd (hK _ _ _ _ hk2)
      | _ :: _ :: _, hs =>
        obtain ⟨a, s, rfl, hb⟩ := am_r_inv hs
        obtain ⟨ha, hk2⟩ := am_if_inv hb
        obtain ⟨r1, r2⟩ := am_rng ha
        obtain ⟨b, rfl⟩ : ∃ b : Nat, a = 1000000 + (11 + b) := ⟨a - 1000011, by omega⟩
        rw [show 1000000 + (11 + b) - 1000011 = b by omega] at hk2
        exact sn_blen (by omega) hd (hK _ _ _ _ hk2)
    case newarray t =>
      obtain ⟨rfl, c1, c2⟩ : n = 2 ∧ newarray.typeOf t = am_aty (am_x aux 0) ∧ (am_x aux 0 = 0 ∨ am_x aux 0 = 1) := of_decide_eq_true hc
      obtain ⟨x, s, rfl, ⟨g1, g2⟩, g3, hk2⟩ := am_1_inv hs
      exact sn_newa ⟨c1, c2⟩ hd g1 g2 g3 (hK _ _ _ _ hk2)
    case anewarray j =>
      obtain ⟨rfl, c1, c2⟩ : n = 3 ∧ (am_x aux 0 = 0 ∨ am_x aux 0 = 2) ∧ lw_tbl[am_x aux 1]? = some (.classLink (tm_y k).cls j (am_cn (am_x aux 0))) := of_decide_eq_true hc
      obtain ⟨x, s, rfl, ⟨g1, g2⟩, g3, hk2⟩ := am_1_inv hs
      exact sn_anew c1 (am_wd_gt c2 rfl) hd g1 g2 g3 (hK _ _ _ _ hk2)
    case new j =>
      obtain ⟨rfl, c1, c2, c3, c4⟩ : n = 3 ∧ am_x aux 0 < 6 ∧ lw_tbl[am_x aux 1]? = some (.classLink (tm_y k).cls j (am_cn (am_x aux 0))) ∧ lw_tbl[am_x aux 2]? = some (.instantiable (am_cn (am_x aux 0)) (am_N (am_x aux 0))) ∧ lw_tbl[am_x aux 3]? = some (.initialized (am_cn (am_x aux 0))) := of_decide_eq_true hc
      obtain ⟨g3, hk2⟩ := hs
      exact sn_new c1 (am_wd_gt c2 rfl) (am_wd_gt c3 rfl) (am_wd_gt c4 rfl) hd g3 (hK _ _ _ _ hk2)
    case invokevirtual j =>
      obtain ⟨q1, q2⟩ := am_and hc
      obtain rfl := of_decide_eq_true q1
      exact am_snd_call hmk q2 (Or.inr (Or.inl ⟨rfl, hd⟩)) hK hs
    case invokespecial j =>
      generalize hkd : am_x aux 0 = kd at *
      match kd, hkd with
      | 0, hkd =>
        have hc2 : (decide (n = 3) && am_ckB k (am_x aux 5) j objectInit) = true := by simpa only [am_ck, hkd] using hc
        have hs2 : am_r st (fun _ s => am_if (Nat.ble s.length 4) (K (pc + n) ls s h)) := by simpa only [am_i, hkd] using hs
        obtain ⟨q1, q2⟩ := am_and hc2
        obtain rfl := of_decide_eq_true q1
        obtain ⟨c1, c2, c3⟩ := of_decide_eq_true q2
        obtain ⟨a, s, rfl, hb⟩ := am_r_inv hs2
        obtain ⟨g1, hk2⟩ := am_ble hb
        exact sn_oinit g1 c1 c2 (am_wd_gt c3 rfl) hd (hK _ _ _ _ hk2)
      | kd + 1, hkd =>
        have hc2 : (decide (n = 3) && am_ckC k 2 j aux) = true := by simpa only [am_ck, hkd] using hc
        have hs2 : am_call (am_ok L xs) (am_Al k h0) tm_mcs K (pc + n) aux ls st h := by simpa only [am_i, hkd] using hs
        obtain ⟨q1, q2⟩ := am_and hc2
        obtain rfl := of_decide_eq_true q1
        exact am_snd_call hmk q2 (Or.inr (Or.inr ⟨rfl, hd⟩)) hK hs2
    case invokestatic j =>
      generalize hkd : am_x aux 0 = kd at *
      match kd, hkd with
      | 2, hkd =>
        have hc2 : (decide (n = 3) && am_ckB k (am_x aux 5) j Lib.Math.max.name) = true := by simpa only [am_ck, hkd] using hc
        have hs2 : am_2 st (fun x y s => am_if (Nat.ble s.length 4) (K (pc + n) ls (.int (if x < y then y else x) :: s) h)) := by simpa only [am_i, hkd] using hs
        obtain ⟨q1, q2⟩ := am_and hc2
        obtain rfl := of_decide_eq_true q1
        obtain ⟨c1, c2, c3⟩ := of_decide_eq_true q2
        obtain ⟨x, y, s, rfl, hb⟩ := am_2_inv hs2
        obtain ⟨g1, hk2⟩ := am_ble hb
        exact sn_max g1 c1 c2 (am_wd_gt c3 rfl) hd (hK _ _ _ _ hk2)
      | 3, hkd =>
        have hc2 : (decide (n = 3) && am_ckB k (am_x aux 5) j Lib.Math.min.name) = true := by simpa only [am_ck, hkd] using hc
        have hs2 : am_2 st (fun x y s => am_if (Nat.ble s.length 4) (K (pc + n) ls (.int (if y < x then y else x) :: s) h)) := by simpa only [am_i, hkd] using hs
        obtain ⟨q1, q2⟩ := am_and hc2
        obtain rfl := of_decide_eq_true q1
        obtain ⟨c1, c2, c3⟩ := of_decide_eq_true q2
        obtain ⟨x, y, s, rfl, hb⟩ := am_2_inv hs2
        obtain ⟨g1, hk2⟩ := am_ble hb
        exact sn_min g1 c1 c2 (am_wd_gt c3 rfl) hd (hK _ _ _ _ hk2)
      | 4, hkd =>
        have hc2 : (decide (n = 3) && am_ckB k (am_x aux 5) j arraycopyName) = true := by simpa only [am_ck, hkd] using hc
        have hs2 : am_cpS st (fun a0 sp a dp n' s => am_if (Nat.ble s.length 4) (am_b (am_cp h a0 sp a dp n') (fun h' => K (pc + n) ls s h'))) := by simpa only [am_i, hkd] using hs
        obtain ⟨q1, q2⟩ := am_and hc2
        obtain rfl := of_decide_eq_true q1
        obtain ⟨c1, c2, c3⟩ := of_decide_eq_true q2
        obtain ⟨a0, sp, a, dp, n9, s, rfl, hb⟩ := am_cpS_inv hs2
        obtain ⟨g1, hb2⟩ := am_ble hb
        obtain ⟨h', hx, hk2⟩ := am_b_inv hb2
        exact sn_copy g1 c1 c2 (am_wd_gt c3 rfl) hd hx (hK _ _ _ _ hk2)
      | 0, hkd =>
        have hc2 : (decide (n = 3) && am_ckC k 0 j aux) = true := by simpa only [am_ck, hkd] using hc
        have hs2 : am_call (am_ok L xs) (am_Al k h0) tm_mcs K (pc + n) aux ls st h := by simpa only [am_i, hkd] using hs
        obtain ⟨q1, q2⟩ := am_and hc2
        obtain rfl := of_decide_eq_true q1
        exact am_snd_call hmk q2 (Or.inl ⟨rfl, hd⟩) hK hs2
      | 1, hkd =>
        have hc2 : (decide (n = 3) && am_ckC k 0 j aux) = true := by simpa only [am_ck, hkd] using hc
        have hs2 : am_call (am_ok L xs) (am_Al k h0) tm_mcs K (pc + n) aux ls st h := by simpa only [am_i, hkd] using hs
        obtain ⟨q1, q2⟩ := am_and hc2
        obtain rfl := of_decide_eq_true q1
        exact am_snd_call hmk q2 (Or.inl ⟨rfl, hd⟩) hK hs2
      | kd + 5, hkd =>
        have hc2 : (decide (n = 3) && am_ckC k 0 j aux) = true := by simpa only [am_ck, hkd] using hc
        have hs2 : am_call (am_ok L xs) (am_Al k h0) tm_mcs K (pc + n) aux ls st h := by simpa only [am_i, hkd] using hs
        obtain ⟨q1, q2⟩ := am_and hc2
        obtain rfl := of_decide_eq_true q1
        exact am_snd_call hmk q2 (Or.inl ⟨rfl, hd⟩) hK hs2
    case ireturn =>
      obtain rfl : n = 1 := of_decide_eq_true hc
      match st, hs with
      | [.int x], hs => exact sn_iret hd hs.1 ⟨hs.2.1, hs.2.2⟩
    case return_ =>
      obtain rfl : n = 1 := of_decide_eq_true hc
      match st, hs with
      | [], hs => exact sn_vret hd ⟨hs.1, hs.2⟩
    all_goals exact False.elim hs
theorem am_keep_sub (g : am_G) (lv : List Nat) : ∀ (l : List Value) (i : Nat) (q : Nat × Value), q ∈ am_as g i (am_keep lv i l) → q ∈ am_as g i l := by
  intro l
  induction l with
  | nil => intro i q h; exact h
  | cons v l ih =>
    intro i q h
    have tail : q ∈ am_as g (i + 1) l → q ∈ am_as g i (v :: l) := by
      intro h5
      clear h
      cases v with
      | null => exact h5
      | _ => exact List.mem_cons_of_mem _ h5
    unfold am_keep at h
    split at h
    · cases v with
      | null => exact ih _ _ h
      | _ =>
        rcases List.mem_cons.mp h with e | h
        · exact List.mem_cons.mpr (Or.inl e)
        · exact List.mem_cons_of_mem _ (ih _ _ h)
    · exact tail (ih _ _ h)
theorem am_forget {lv : List Nat} (K : am_wa L xs k h0 r h1 pc (am_keep lv 0 ls) st h) : am_wa L xs k h0 r h1 pc ls st h := by
  intro l g p e R s m args below meth c Q A H locs lr hW hS hL hz
  exact K l g p e R s m args below meth c Q A H locs lr hW hS ⟨⟨hL.1.1, hL.1.2.1, fun q hq => hL.1.2.2 q (am_keep_sub g lv ls 0 q hq)⟩, hL.2⟩ hz
/-- a chunk: the abstract machine from a place to the next cut points, and the claim from there on -/
theorem am_chunk (hmk : ∀ k', k' < 169 → am_mk k') (hk : am_okk k) (cuts : List (Nat × List Nat)) : ∀ (n : Nat) (pc : Nat) (ls st : List Value) (h : am_H), am_U L xs am_cn am_df (tm_k k) (tm_rt k) (am_ok L xs) (am_Al k h0) tm_mcs (am_Rt r h1) (am_wa L xs k h0 r h1) cuts n pc ls st h → am_wa L xs k h0 r h1 pc ls st h := by
  intro n
  induction n with
  | zero => intro pc ls st h hs; exact hs
  | succ n ih =>
    intro pc ls st h hs
    refine am_snd hmk hk ?_ hs
    intro pc' ls' st' h' hk'
    split at hk'
    · exact am_forget hk'
    · exact ih _ _ _ _ hk'
end ST
