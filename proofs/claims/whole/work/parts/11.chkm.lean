/-! THE TABLES ARE RIGHT: the methods -/
def am_mkB (k : Nat) : Bool := decide (lw_tbl[(tm_ps k).getD 2 0]? = some (.initialized (tm_y k).cls)) && decide ((tm_y k).cls ≠ "java/lang/invoke/MethodHandle" ∧ (tm_y k).cls ≠ "java/lang/invoke/VarHandle" ∧ (parseMethodDescriptor (tm_y k).desc).map (fun d => d.parameters.length) = some (tm_n k)) && (match tm_kd k with
  | 0 => decide (lw_tbl[(tm_ps k).getD 1 0]? = some (.static (tm_y k)))
  | 1 => decide (lw_tbl[(tm_ps k).getD 1 0]? = some (.instanceMethod (tm_y k))) && decide (lw_tbl[(tm_ps k).getD 3 0]? = some (.selects (tm_y k).cls (tm_y k) (tm_y k))) && decide ((tm_ci k < 6 ∧ (tm_y k).cls = am_cn (tm_ci k)) ∨ (tm_ci k = 99 ∧ (tm_y k).cls = "java/lang/String"))
  | 2 => decide (lw_tbl[(tm_ps k).getD 1 0]? = some (.instanceMethod (tm_y k))) && decide ((tm_y k).name = "<init>" ∧ tm_ret k = none)
  | _ => false) && plainName (tm_y k).cls && decide (tm_ret k = some (tm_rt k) ∨ tm_ret k = none)
theorem am_mk_of {k pos : Nat} (h1 : lw_tbl[pos]? = some (.code (tm_y k) (tm_b k) (tm_ml k) (tm_ret k))) (h : am_mkB k = true) : am_mk k ∧ plainName (tm_y k).cls = true ∧ (tm_ret k = some (tm_rt k) ∨ tm_ret k = none) := by
  unfold am_mkB at h
  obtain ⟨h, h6⟩ := am_and h
  obtain ⟨h, h5⟩ := am_and h
  obtain ⟨h, h4⟩ := am_and h
  obtain ⟨h2, h3⟩ := am_and h
  refine ⟨⟨am_wd_gt h1 rfl, am_wd_gt (of_decide_eq_true h2) rfl, of_decide_eq_true h3, fun e => ?_, fun e => ?_, fun e => ?_⟩, h5, of_decide_eq_true h6⟩
  · rw [e] at h4
    exact am_wd_gt (of_decide_eq_true h4) rfl
  · rw [e] at h4
    obtain ⟨q, q3⟩ := am_and h4
    obtain ⟨q1, q2⟩ := am_and q
    exact ⟨am_wd_gt (of_decide_eq_true q1) rfl, am_wd_gt (of_decide_eq_true q2) rfl, of_decide_eq_true q3⟩
  · rw [e] at h4
    obtain ⟨q1, q2⟩ := am_and h4
    have q3 := of_decide_eq_true q2
    exact ⟨am_wd_gt (of_decide_eq_true q1) rfl, q3.1, q3.2⟩
abbrev am_mp (k : Nat) : Prop := am_mk k ∧ plainName (tm_y k).cls = true ∧ (tm_ret k = some (tm_rt k) ∨ tm_ret k = none)
set_option maxRecDepth 100000 in
theorem mk_X0_init : am_mp m_X0_init := am_mk_of (pos := 73) rfl (by decide +kernel)
set_option maxRecDepth 100000 in
theorem mk_X0_begin : am_mp m_X0_begin := am_mk_of (pos := 172) rfl (by decide +kernel)
set_option maxRecDepth 100000 in
theorem mk_X0_forgetCycles : am_mp m_X0_forgetCycles := am_mk_of (pos := 351) rfl (by decide +kernel)
set_option maxRecDepth 100000 in
theorem mk_X0_copyFrom : am_mp m_X0_copyFrom := am_mk_of (pos := 244) rfl (by decide +kernel)
set_option maxRecDepth 100000 in
theorem mk_X0_isStation : am_mp m_X0_isStation := am_mk_of (pos := 371) rfl (by decide +kernel)
set_option maxRecDepth 100000 in
theorem mk_X0_isSlot : am_mp m_X0_isSlot := am_mk_of (pos := 397) rfl (by decide +kernel)
set_option maxRecDepth 100000 in
theorem mk_X0_isPair : am_mp m_X0_isPair := am_mk_of (pos := 480) rfl (by decide +kernel)
set_option maxRecDepth 100000 in
theorem mk_X0_link : am_mp m_X0_link := am_mk_of (pos := 336) rfl (by decide +kernel)
set_option maxRecDepth 100000 in
theorem mk_X0_cut : am_mp m_X0_cut := am_mk_of (pos := 495) rfl (by decide +kernel)
set_option maxRecDepth 100000 in
theorem mk_X0_linkCount : am_mp m_X0_linkCount := am_mk_of (pos := 633) rfl (by decide +kernel)
set_option maxRecDepth 100000 in
theorem mk_X0_near : am_mp m_X0_near := am_mk_of (pos := 375) rfl (by decide +kernel)
set_option maxRecDepth 100000 in
theorem mk_X0_hearing : am_mp m_X0_hearing := am_mk_of (pos := 446) rfl (by decide +kernel)
set_option maxRecDepth 100000 in
theorem mk_X0_nearToAny : am_mp m_X0_nearToAny := am_mk_of (pos := 411) rfl (by decide +kernel)
set_option maxRecDepth 100000 in
theorem mk_X0_holders : am_mp m_X0_holders := am_mk_of (pos := 401) rfl (by decide +kernel)
set_option maxRecDepth 100000 in
theorem mk_X0_covered : am_mp m_X0_covered := am_mk_of (pos := 382) rfl (by decide +kernel)
set_option maxRecDepth 100000 in
theorem mk_X0_isDone : am_mp m_X0_isDone := am_mk_of (pos := 527) rfl (by decide +kernel)
set_option maxRecDepth 100000 in
theorem mk_X0_clashes : am_mp m_X0_clashes := am_mk_of (pos := 486) rfl (by decide +kernel)
set_option maxRecDepth 100000 in
theorem mk_X0_clashesBy : am_mp m_X0_clashesBy := am_mk_of (pos := 416) rfl (by decide +kernel)
set_option maxRecDepth 100000 in
theorem mk_X0_contenders : am_mp m_X0_contenders := am_mk_of (pos := 405) rfl (by decide +kernel)
set_option maxRecDepth 100000 in
theorem mk_X0_runFrame : am_mp m_X0_runFrame := am_mk_of (pos := 466) rfl (by decide +kernel)
set_option maxRecDepth 100000 in
theorem mk_X0_runCycle : am_mp m_X0_runCycle := am_mk_of (pos := 432) rfl (by decide +kernel)
set_option maxRecDepth 100000 in
theorem mk_X0_drawLot : am_mp m_X0_drawLot := am_mk_of (pos := 441) rfl (by decide +kernel)
set_option maxRecDepth 100000 in
theorem mk_X0_ask : am_mp m_X0_ask := am_mk_of (pos := 437) rfl (by decide +kernel)
set_option maxRecDepth 100000 in
theorem mk_X0_settle : am_mp m_X0_settle := am_mk_of (pos := 450) rfl (by decide +kernel)
set_option maxRecDepth 100000 in
theorem mk_X0_changeShares : am_mp m_X0_changeShares := am_mk_of (pos := 454) rfl (by decide +kernel)
set_option maxRecDepth 100000 in
theorem mk_X0_dealOneSlotEach : am_mp m_X0_dealOneSlotEach := am_mk_of (pos := 539) rfl (by decide +kernel)
set_option maxRecDepth 100000 in
theorem mk_X0_leastFree : am_mp m_X0_leastFree := am_mk_of (pos := 543) rfl (by decide +kernel)
set_option maxRecDepth 100000 in
theorem mk_X1_init : am_mp m_X1_init := am_mk_of (pos := 152) rfl (by decide +kernel)
set_option maxRecDepth 100000 in
theorem mk_X1_size : am_mp m_X1_size := am_mk_of (pos := 503) rfl (by decide +kernel)
set_option maxRecDepth 100000 in
theorem mk_X1_forget : am_mp m_X1_forget := am_mk_of (pos := 355) rfl (by decide +kernel)
set_option maxRecDepth 100000 in
theorem mk_X1_remember : am_mp m_X1_remember := am_mk_of (pos := 424) rfl (by decide +kernel)
set_option maxRecDepth 100000 in
theorem mk_X1_recall : am_mp m_X1_recall := am_mk_of (pos := 507) rfl (by decide +kernel)
set_option maxRecDepth 100000 in
theorem mk_X2_init : am_mp m_X2_init := am_mk_of (pos := 179) rfl (by decide +kernel)
set_option maxRecDepth 100000 in
theorem mk_X2_begin : am_mp m_X2_begin := am_mk_of (pos := 562) rfl (by decide +kernel)
set_option maxRecDepth 100000 in
theorem mk_X2_lose : am_mp m_X2_lose := am_mk_of (pos := 359) rfl (by decide +kernel)
set_option maxRecDepth 100000 in
theorem mk_X2_addAll : am_mp m_X2_addAll := am_mk_of (pos := 570) rfl (by decide +kernel)
set_option maxRecDepth 100000 in
theorem mk_X2_takeLast : am_mp m_X2_takeLast := am_mk_of (pos := 602) rfl (by decide +kernel)
set_option maxRecDepth 100000 in
theorem mk_X2_sum : am_mp m_X2_sum := am_mk_of (pos := 580) rfl (by decide +kernel)
set_option maxRecDepth 100000 in
theorem mk_X2_greatest : am_mp m_X2_greatest := am_mk_of (pos := 584) rfl (by decide +kernel)
set_option maxRecDepth 100000 in
theorem mk_X2_least : am_mp m_X2_least := am_mk_of (pos := 589) rfl (by decide +kernel)
set_option maxRecDepth 100000 in
theorem mk_X2_swing : am_mp m_X2_swing := am_mk_of (pos := 594) rfl (by decide +kernel)
set_option maxRecDepth 100000 in
theorem mk_X2_negate : am_mp m_X2_negate := am_mk_of (pos := 610) rfl (by decide +kernel)
set_option maxRecDepth 100000 in
theorem mk_X2_twice : am_mp m_X2_twice := am_mk_of (pos := 614) rfl (by decide +kernel)
set_option maxRecDepth 100000 in
theorem mk_X2_sumUp : am_mp m_X2_sumUp := am_mk_of (pos := 621) rfl (by decide +kernel)
set_option maxRecDepth 100000 in
theorem mk_X2_held : am_mp m_X2_held := am_mk_of (pos := 617) rfl (by decide +kernel)
set_option maxRecDepth 100000 in
theorem mk_X3_init : am_mp m_X3_init := am_mk_of (pos := 127) rfl (by decide +kernel)
set_option maxRecDepth 100000 in
theorem mk_X3_length : am_mp m_X3_length := am_mk_of (pos := 641) rfl (by decide +kernel)
set_option maxRecDepth 100000 in
theorem mk_X3_isFull : am_mp m_X3_isFull := am_mk_of (pos := 223) rfl (by decide +kernel)
set_option maxRecDepth 100000 in
theorem mk_X3_add : am_mp m_X3_add := am_mk_of (pos := 227) rfl (by decide +kernel)
set_option maxRecDepth 100000 in
theorem mk_X3_clear : am_mp m_X3_clear := am_mk_of (pos := 236) rfl (by decide +kernel)
set_option maxRecDepth 100000 in
theorem mk_X3_clausesRead : am_mp m_X3_clausesRead := am_mk_of (pos := 363) rfl (by decide +kernel)
set_option maxRecDepth 100000 in
theorem mk_X3_readInto : am_mp m_X3_readInto := am_mk_of (pos := 251) rfl (by decide +kernel)
set_option maxRecDepth 100000 in
theorem mk_X3_readClause : am_mp m_X3_readClause := am_mk_of (pos := 265) rfl (by decide +kernel)
set_option maxRecDepth 100000 in
theorem mk_X3_readMesh : am_mp m_X3_readMesh := am_mk_of (pos := 322) rfl (by decide +kernel)
set_option maxRecDepth 100000 in
theorem mk_X3_readLink : am_mp m_X3_readLink := am_mk_of (pos := 332) rfl (by decide +kernel)
set_option maxRecDepth 100000 in
theorem mk_X3_readOfStation : am_mp m_X3_readOfStation := am_mk_of (pos := 341) rfl (by decide +kernel)
set_option maxRecDepth 100000 in
theorem mk_X3_readNumber : am_mp m_X3_readNumber := am_mk_of (pos := 326) rfl (by decide +kernel)
set_option maxRecDepth 100000 in
theorem mk_X3_nextToken : am_mp m_X3_nextToken := am_mk_of (pos := 255) rfl (by decide +kernel)
set_option maxRecDepth 100000 in
theorem mk_X3_isWord : am_mp m_X3_isWord := am_mk_of (pos := 270) rfl (by decide +kernel)
set_option maxRecDepth 100000 in
theorem mk_X3_isSmall : am_mp m_X3_isSmall := am_mk_of (pos := 258) rfl (by decide +kernel)
set_option maxRecDepth 100000 in
theorem mk_X3_isDigit : am_mp m_X3_isDigit := am_mk_of (pos := 261) rfl (by decide +kernel)
set_option maxRecDepth 100000 in
theorem mk_X4_init : am_mp m_X4_init := am_mk_of (pos := 65) rfl (by decide +kernel)
set_option maxRecDepth 100000 in
theorem mk_X4_write : am_mp m_X4_write := am_mk_of (pos := 219) rfl (by decide +kernel)
set_option maxRecDepth 100000 in
theorem mk_X4_erase : am_mp m_X4_erase := am_mk_of (pos := 232) rfl (by decide +kernel)
set_option maxRecDepth 100000 in
theorem mk_X4_fault : am_mp m_X4_fault := am_mk_of (pos := 240) rfl (by decide +kernel)
set_option maxRecDepth 100000 in
theorem mk_X4_mesh : am_mp m_X4_mesh := am_mk_of (pos := 347) rfl (by decide +kernel)
set_option maxRecDepth 100000 in
theorem mk_X4_station : am_mp m_X4_station := am_mk_of (pos := 367) rfl (by decide +kernel)
set_option maxRecDepth 100000 in
theorem mk_X4_slot : am_mp m_X4_slot := am_mk_of (pos := 393) rfl (by decide +kernel)
set_option maxRecDepth 100000 in
theorem mk_X4_cycle : am_mp m_X4_cycle := am_mk_of (pos := 420) rfl (by decide +kernel)
set_option maxRecDepth 100000 in
theorem mk_X4_frame : am_mp m_X4_frame := am_mk_of (pos := 462) rfl (by decide +kernel)
set_option maxRecDepth 100000 in
theorem mk_X4_give : am_mp m_X4_give := am_mk_of (pos := 472) rfl (by decide +kernel)
set_option maxRecDepth 100000 in
theorem mk_X4_join : am_mp m_X4_join := am_mk_of (pos := 476) rfl (by decide +kernel)
set_option maxRecDepth 100000 in
theorem mk_X4_part : am_mp m_X4_part := am_mk_of (pos := 491) rfl (by decide +kernel)
set_option maxRecDepth 100000 in
theorem mk_X4_undo : am_mp m_X4_undo := am_mk_of (pos := 499) rfl (by decide +kernel)
set_option maxRecDepth 100000 in
theorem mk_X4_keep : am_mp m_X4_keep := am_mk_of (pos := 511) rfl (by decide +kernel)
set_option maxRecDepth 100000 in
theorem mk_X4_back : am_mp m_X4_back := am_mk_of (pos := 515) rfl (by decide +kernel)
set_option maxRecDepth 100000 in
theorem mk_X4_phase : am_mp m_X4_phase := am_mk_of (pos := 519) rfl (by decide +kernel)
set_option maxRecDepth 100000 in
theorem mk_X4_after : am_mp m_X4_after := am_mk_of (pos := 523) rfl (by decide +kernel)
set_option maxRecDepth 100000 in
theorem mk_X4_spoils : am_mp m_X4_spoils := am_mk_of (pos := 531) rfl (by decide +kernel)
set_option maxRecDepth 100000 in
theorem mk_X4_fewest : am_mp m_X4_fewest := am_mk_of (pos := 535) rfl (by decide +kernel)
set_option maxRecDepth 100000 in
theorem mk_X4_hops : am_mp m_X4_hops := am_mk_of (pos := 547) rfl (by decide +kernel)
set_option maxRecDepth 100000 in
theorem mk_X4_tally : am_mp m_X4_tally := am_mk_of (pos := 552) rfl (by decide +kernel)
set_option maxRecDepth 100000 in
theorem mk_X4_append : am_mp m_X4_append := am_mk_of (pos := 566) rfl (by decide +kernel)
set_option maxRecDepth 100000 in
theorem mk_X4_reckon : am_mp m_X4_reckon := am_mk_of (pos := 575) rfl (by decide +kernel)
set_option maxRecDepth 100000 in
theorem mk_X4_pop : am_mp m_X4_pop := am_mk_of (pos := 598) rfl (by decide +kernel)
set_option maxRecDepth 100000 in
theorem mk_X4_each : am_mp m_X4_each := am_mk_of (pos := 606) rfl (by decide +kernel)
set_option maxRecDepth 100000 in
theorem mk_X4_drop : am_mp m_X4_drop := am_mk_of (pos := 625) rfl (by decide +kernel)
set_option maxRecDepth 100000 in
theorem mk_X4_told : am_mp m_X4_told := am_mk_of (pos := 629) rfl (by decide +kernel)
set_option maxRecDepth 100000 in
theorem mk_X4_numbersOfAll : am_mp m_X4_numbersOfAll := am_mk_of (pos := 637) rfl (by decide +kernel)
set_option maxRecDepth 100000 in
theorem mk_X4_isTally : am_mp m_X4_isTally := am_mk_of (pos := 555) rfl (by decide +kernel)
set_option maxRecDepth 100000 in
theorem mk_X4_isNumber : am_mp m_X4_isNumber := am_mk_of (pos := 558) rfl (by decide +kernel)
set_option maxRecDepth 100000 in
theorem mk_X4_has : am_mp m_X4_has := am_mk_of (pos := 378) rfl (by decide +kernel)
set_option maxRecDepth 100000 in
theorem mk_X5_init : am_mp m_X5_init := am_mk_of (pos := 646) rfl (by decide +kernel)
set_option maxRecDepth 100000 in
theorem mk_X5_in : am_mp m_X5_in := am_mk_of (pos := 720) rfl (by decide +kernel)
set_option maxRecDepth 100000 in
theorem mk_X5_has : am_mp m_X5_has := am_mk_of (pos := 789) rfl (by decide +kernel)
set_option maxRecDepth 100000 in
theorem mk_X5_ones : am_mp m_X5_ones := am_mk_of (pos := 796) rfl (by decide +kernel)
set_option maxRecDepth 100000 in
theorem mk_X5_copyRow : am_mp m_X5_copyRow := am_mk_of (pos := 828) rfl (by decide +kernel)
set_option maxRecDepth 100000 in
theorem mk_X5_anew : am_mp m_X5_anew := am_mk_of (pos := 651) rfl (by decide +kernel)
set_option maxRecDepth 100000 in
theorem mk_X5_write : am_mp m_X5_write := am_mk_of (pos := 716) rfl (by decide +kernel)
set_option maxRecDepth 100000 in
theorem mk_X5_erase : am_mp m_X5_erase := am_mk_of (pos := 724) rfl (by decide +kernel)
set_option maxRecDepth 100000 in
theorem mk_X5_isSmall : am_mp m_X5_isSmall := am_mk_of (pos := 739) rfl (by decide +kernel)
set_option maxRecDepth 100000 in
theorem mk_X5_isDigit : am_mp m_X5_isDigit := am_mk_of (pos := 744) rfl (by decide +kernel)
set_option maxRecDepth 100000 in
theorem mk_X5_nextToken : am_mp m_X5_nextToken := am_mk_of (pos := 736) rfl (by decide +kernel)
set_option maxRecDepth 100000 in
theorem mk_X5_wordHere : am_mp m_X5_wordHere := am_mk_of (pos := 754) rfl (by decide +kernel)
set_option maxRecDepth 100000 in
theorem mk_X5_number : am_mp m_X5_number := am_mk_of (pos := 762) rfl (by decide +kernel)
set_option maxRecDepth 100000 in
theorem mk_X5_readsRest : am_mp m_X5_readsRest := am_mk_of (pos := 758) rfl (by decide +kernel)
set_option maxRecDepth 100000 in
theorem mk_X5_joins : am_mp m_X5_joins := am_mk_of (pos := 770) rfl (by decide +kernel)
set_option maxRecDepth 100000 in
theorem mk_X5_does : am_mp m_X5_does := am_mk_of (pos := 766) rfl (by decide +kernel)
set_option maxRecDepth 100000 in
theorem mk_X5_readsClause : am_mp m_X5_readsClause := am_mk_of (pos := 750) rfl (by decide +kernel)
set_option maxRecDepth 100000 in
theorem mk_X5_reads : am_mp m_X5_reads := am_mk_of (pos := 732) rfl (by decide +kernel)
set_option maxRecDepth 100000 in
theorem mk_X5_fault : am_mp m_X5_fault := am_mk_of (pos := 728) rfl (by decide +kernel)
set_option maxRecDepth 100000 in
theorem mk_X5_mesh : am_mp m_X5_mesh := am_mk_of (pos := 774) rfl (by decide +kernel)
set_option maxRecDepth 100000 in
theorem mk_X5_isStation : am_mp m_X5_isStation := am_mk_of (pos := 782) rfl (by decide +kernel)
set_option maxRecDepth 100000 in
theorem mk_X5_isSlot : am_mp m_X5_isSlot := am_mk_of (pos := 804) rfl (by decide +kernel)
set_option maxRecDepth 100000 in
theorem mk_X5_near : am_mp m_X5_near := am_mk_of (pos := 786) rfl (by decide +kernel)
set_option maxRecDepth 100000 in
theorem mk_X5_holders : am_mp m_X5_holders := am_mk_of (pos := 808) rfl (by decide +kernel)
set_option maxRecDepth 100000 in
theorem mk_X5_isCovered : am_mp m_X5_isCovered := am_mk_of (pos := 793) rfl (by decide +kernel)
set_option maxRecDepth 100000 in
theorem mk_X5_covered : am_mp m_X5_covered := am_mk_of (pos := 874) rfl (by decide +kernel)
set_option maxRecDepth 100000 in
theorem mk_X5_contenders : am_mp m_X5_contenders := am_mk_of (pos := 812) rfl (by decide +kernel)
set_option maxRecDepth 100000 in
theorem mk_X5_clashesBy : am_mp m_X5_clashesBy := am_mk_of (pos := 816) rfl (by decide +kernel)
set_option maxRecDepth 100000 in
theorem mk_X5_clashes : am_mp m_X5_clashes := am_mk_of (pos := 890) rfl (by decide +kernel)
set_option maxRecDepth 100000 in
theorem mk_X5_station : am_mp m_X5_station := am_mk_of (pos := 778) rfl (by decide +kernel)
set_option maxRecDepth 100000 in
theorem mk_X5_slot : am_mp m_X5_slot := am_mk_of (pos := 800) rfl (by decide +kernel)
set_option maxRecDepth 100000 in
theorem mk_X5_lot : am_mp m_X5_lot := am_mk_of (pos := 840) rfl (by decide +kernel)
set_option maxRecDepth 100000 in
theorem mk_X5_asking : am_mp m_X5_asking := am_mk_of (pos := 836) rfl (by decide +kernel)
set_option maxRecDepth 100000 in
theorem mk_X5_hearing : am_mp m_X5_hearing := am_mk_of (pos := 845) rfl (by decide +kernel)
set_option maxRecDepth 100000 in
theorem mk_X5_first : am_mp m_X5_first := am_mk_of (pos := 853) rfl (by decide +kernel)
set_option maxRecDepth 100000 in
theorem mk_X5_settles : am_mp m_X5_settles := am_mk_of (pos := 849) rfl (by decide +kernel)
set_option maxRecDepth 100000 in
theorem mk_X5_nearTo : am_mp m_X5_nearTo := am_mk_of (pos := 861) rfl (by decide +kernel)
set_option maxRecDepth 100000 in
theorem mk_X5_shares : am_mp m_X5_shares := am_mk_of (pos := 857) rfl (by decide +kernel)
set_option maxRecDepth 100000 in
theorem mk_X5_cycleOf : am_mp m_X5_cycleOf := am_mk_of (pos := 832) rfl (by decide +kernel)
set_option maxRecDepth 100000 in
theorem mk_X5_frameOf : am_mp m_X5_frameOf := am_mk_of (pos := 870) rfl (by decide +kernel)
set_option maxRecDepth 100000 in
theorem mk_X5_keepPast : am_mp m_X5_keepPast := am_mk_of (pos := 824) rfl (by decide +kernel)
set_option maxRecDepth 100000 in
theorem mk_X5_cycle : am_mp m_X5_cycle := am_mk_of (pos := 820) rfl (by decide +kernel)
set_option maxRecDepth 100000 in
theorem mk_X5_frame : am_mp m_X5_frame := am_mk_of (pos := 865) rfl (by decide +kernel)
set_option maxRecDepth 100000 in
theorem mk_X5_give : am_mp m_X5_give := am_mk_of (pos := 878) rfl (by decide +kernel)
set_option maxRecDepth 100000 in
theorem mk_X5_areTwo : am_mp m_X5_areTwo := am_mk_of (pos := 886) rfl (by decide +kernel)
set_option maxRecDepth 100000 in
theorem mk_X5_join : am_mp m_X5_join := am_mk_of (pos := 882) rfl (by decide +kernel)
set_option maxRecDepth 100000 in
theorem mk_X5_part : am_mp m_X5_part := am_mk_of (pos := 894) rfl (by decide +kernel)
set_option maxRecDepth 100000 in
theorem mk_X5_undo : am_mp m_X5_undo := am_mk_of (pos := 898) rfl (by decide +kernel)
set_option maxRecDepth 100000 in
theorem mk_X5_keep : am_mp m_X5_keep := am_mk_of (pos := 902) rfl (by decide +kernel)
set_option maxRecDepth 100000 in
theorem mk_X5_back : am_mp m_X5_back := am_mk_of (pos := 906) rfl (by decide +kernel)
set_option maxRecDepth 100000 in
theorem mk_X5_phase : am_mp m_X5_phase := am_mk_of (pos := 910) rfl (by decide +kernel)
set_option maxRecDepth 100000 in
theorem mk_X5_isDone : am_mp m_X5_isDone := am_mk_of (pos := 919) rfl (by decide +kernel)
set_option maxRecDepth 100000 in
theorem mk_X5_after : am_mp m_X5_after := am_mk_of (pos := 915) rfl (by decide +kernel)
set_option maxRecDepth 100000 in
theorem mk_X5_spoils : am_mp m_X5_spoils := am_mk_of (pos := 923) rfl (by decide +kernel)
set_option maxRecDepth 100000 in
theorem mk_X5_fewest : am_mp m_X5_fewest := am_mk_of (pos := 927) rfl (by decide +kernel)
set_option maxRecDepth 100000 in
theorem mk_X5_hops : am_mp m_X5_hops := am_mk_of (pos := 931) rfl (by decide +kernel)
set_option maxRecDepth 100000 in
theorem mk_X5_isTally : am_mp m_X5_isTally := am_mk_of (pos := 938) rfl (by decide +kernel)
set_option maxRecDepth 100000 in
theorem mk_X5_isNumber : am_mp m_X5_isNumber := am_mk_of (pos := 943) rfl (by decide +kernel)
set_option maxRecDepth 100000 in
theorem mk_X5_tally : am_mp m_X5_tally := am_mk_of (pos := 935) rfl (by decide +kernel)
set_option maxRecDepth 100000 in
theorem mk_X5_append : am_mp m_X5_append := am_mk_of (pos := 949) rfl (by decide +kernel)
set_option maxRecDepth 100000 in
theorem mk_X5_reckon : am_mp m_X5_reckon := am_mk_of (pos := 953) rfl (by decide +kernel)
set_option maxRecDepth 100000 in
theorem mk_X5_pop : am_mp m_X5_pop := am_mk_of (pos := 958) rfl (by decide +kernel)
set_option maxRecDepth 100000 in
theorem mk_X5_held : am_mp m_X5_held := am_mk_of (pos := 965) rfl (by decide +kernel)
set_option maxRecDepth 100000 in
theorem mk_X5_each : am_mp m_X5_each := am_mk_of (pos := 962) rfl (by decide +kernel)
set_option maxRecDepth 100000 in
theorem mk_X5_drop : am_mp m_X5_drop := am_mk_of (pos := 969) rfl (by decide +kernel)
set_option maxRecDepth 100000 in
theorem mk_X5_links : am_mp m_X5_links := am_mk_of (pos := 977) rfl (by decide +kernel)
set_option maxRecDepth 100000 in
theorem mk_X5_allNumbers : am_mp m_X5_allNumbers := am_mk_of (pos := 981) rfl (by decide +kernel)
set_option maxRecDepth 100000 in
theorem mk_X5_told : am_mp m_X5_told := am_mk_of (pos := 973) rfl (by decide +kernel)
set_option maxRecDepth 100000 in
theorem mk_J6_bitCount_0f7a4 : am_mp m_J6_bitCount_0f7a4 := am_mk_of (pos := 385) rfl (by decide +kernel)
set_option maxRecDepth 100000 in
theorem mk_J0_length_8abf5 : am_mp m_J0_length_8abf5 := am_mk_of (pos := 274) rfl (by decide +kernel)
set_option maxRecDepth 100000 in
theorem mk_J0_charAt_5068e : am_mp m_J0_charAt_5068e := am_mk_of (pos := 284) rfl (by decide +kernel)
set_option maxRecDepth 100000 in
theorem mk_J0_coder_7d493 : am_mp m_J0_coder_7d493 := am_mk_of (pos := 278) rfl (by decide +kernel)
set_option maxRecDepth 100000 in
theorem mk_J0_isLatin1_aae02 : am_mp m_J0_isLatin1_aae02 := am_mk_of (pos := 288) rfl (by decide +kernel)
set_option maxRecDepth 100000 in
theorem mk_J0_checkIndex_df160 : am_mp m_J0_checkIndex_df160 := am_mk_of (pos := 294) rfl (by decide +kernel)
set_option maxRecDepth 100000 in
theorem mk_J1_charAt_3b067 : am_mp m_J1_charAt_3b067 := am_mk_of (pos := 291) rfl (by decide +kernel)
set_option maxRecDepth 100000 in
theorem mk_J7_fill_53178 : am_mp m_J7_fill_53178 := am_mk_of (pos := 175) rfl (by decide +kernel)
set_option maxRecDepth 100000 in
theorem mk_J3_checkIndex_8e157 : am_mp m_J3_checkIndex_8e157 := am_mk_of (pos := 299) rfl (by decide +kernel)
theorem am_mc0 : ∀ k ∈ [0, 1, 2, 3, 4, 5, 6, 7, 8, 9, 10, 11, 12], am_mp k := List.forall_mem_cons.mpr ⟨mk_X0_init, List.forall_mem_cons.mpr ⟨mk_X0_begin, List.forall_mem_cons.mpr ⟨mk_X0_forgetCycles, List.forall_mem_cons.mpr ⟨mk_X0_copyFrom, List.forall_mem_cons.mpr ⟨mk_X0_isStation, List.forall_mem_cons.mpr ⟨mk_X0_isSlot, List.forall_mem_cons.mpr ⟨mk_X0_isPair, List.forall_mem_cons.mpr ⟨mk_X0_link, List.forall_mem_cons.mpr ⟨mk_X0_cut, List.forall_mem_cons.mpr ⟨mk_X0_linkCount, List.forall_mem_cons.mpr ⟨mk_X0_near, List.forall_mem_cons.mpr ⟨mk_X0_hearing, List.forall_mem_cons.mpr ⟨mk_X0_nearToAny, fun _ h => absurd h List.not_mem_nil⟩⟩⟩⟩⟩⟩⟩⟩⟩⟩⟩⟩⟩
theorem am_mc1 : ∀ k ∈ [13, 14, 15, 16, 17, 18, 19, 20, 21, 22, 23, 24, 25], am_mp k := List.forall_mem_cons.mpr ⟨mk_X0_holders, List.forall_mem_cons.mpr ⟨mk_X0_covered, List.forall_mem_cons.mpr ⟨mk_X0_isDone, List.forall_mem_cons.mpr ⟨mk_X0_clashes, List.forall_mem_cons.mpr ⟨mk_X0_clashesBy, List.forall_mem_cons.mpr ⟨mk_X0_contenders, List.forall_mem_cons.mpr ⟨mk_X0_runFrame, List.forall_mem_cons.mpr ⟨mk_X0_runCycle, List.forall_mem_cons.mpr ⟨mk_X0_drawLot, List.forall_mem_cons.mpr ⟨mk_X0_ask, List.forall_mem_cons.mpr ⟨mk_X0_settle, List.forall_mem_cons.mpr ⟨mk_X0_changeShares, List.forall_mem_cons.mpr ⟨mk_X0_dealOneSlotEach, fun _ h => absurd h List.not_mem_nil⟩⟩⟩⟩⟩⟩⟩⟩⟩⟩⟩⟩⟩
theorem am_mc2 : ∀ k ∈ [26, 27, 28, 29, 30, 31, 32, 33, 34, 35, 36, 37, 38], am_mp k := List.forall_mem_cons.mpr ⟨mk_X0_leastFree, List.forall_mem_cons.mpr ⟨mk_X1_init, List.forall_mem_cons.mpr ⟨mk_X1_size, List.forall_mem_cons.mpr ⟨mk_X1_forget, List.forall_mem_cons.mpr ⟨mk_X1_remember, List.forall_mem_cons.mpr ⟨mk_X1_recall, List.forall_mem_cons.mpr ⟨mk_X2_init, List.forall_mem_cons.mpr ⟨mk_X2_begin, List.forall_mem_cons.mpr ⟨mk_X2_lose, List.forall_mem_cons.mpr ⟨mk_X2_addAll, List.forall_mem_cons.mpr ⟨mk_X2_takeLast, List.forall_mem_cons.mpr ⟨mk_X2_sum, List.forall_mem_cons.mpr ⟨mk_X2_greatest, fun _ h => absurd h List.not_mem_nil⟩⟩⟩⟩⟩⟩⟩⟩⟩⟩⟩⟩⟩
theorem am_mc3 : ∀ k ∈ [39, 40, 41, 42, 43, 44, 45, 46, 47, 48, 49, 50, 51], am_mp k := List.forall_mem_cons.mpr ⟨mk_X2_least, List.forall_mem_cons.mpr ⟨mk_X2_swing, List.forall_mem_cons.mpr ⟨mk_X2_negate, List.forall_mem_cons.mpr ⟨mk_X2_twice, List.forall_mem_cons.mpr ⟨mk_X2_sumUp, List.forall_mem_cons.mpr ⟨mk_X2_held, List.forall_mem_cons.mpr ⟨mk_X3_init, List.forall_mem_cons.mpr ⟨mk_X3_length, List.forall_mem_cons.mpr ⟨mk_X3_isFull, List.forall_mem_cons.mpr ⟨mk_X3_add, List.forall_mem_cons.mpr ⟨mk_X3_clear, List.forall_mem_cons.mpr ⟨mk_X3_clausesRead, List.forall_mem_cons.mpr ⟨mk_X3_readInto, fun _ h => absurd h List.not_mem_nil⟩⟩⟩⟩⟩⟩⟩⟩⟩⟩⟩⟩⟩
theorem am_mc4 : ∀ k ∈ [52, 53, 54, 55, 56, 57, 58, 59, 60, 61, 62, 63, 64], am_mp k := List.forall_mem_cons.mpr ⟨mk_X3_readClause, List.forall_mem_cons.mpr ⟨mk_X3_readMesh, List.forall_mem_cons.mpr ⟨mk_X3_readLink, List.forall_mem_cons.mpr ⟨mk_X3_readOfStation, List.forall_mem_cons.mpr ⟨mk_X3_readNumber, List.forall_mem_cons.mpr ⟨mk_X3_nextToken, List.forall_mem_cons.mpr ⟨mk_X3_isWord, List.forall_mem_cons.mpr ⟨mk_X3_isSmall, List.forall_mem_cons.mpr ⟨mk_X3_isDigit, List.forall_mem_cons.mpr ⟨mk_X4_init, List.forall_mem_cons.mpr ⟨mk_X4_write, List.forall_mem_cons.mpr ⟨mk_X4_erase, List.forall_mem_cons.mpr ⟨mk_X4_fault, fun _ h => absurd h List.not_mem_nil⟩⟩⟩⟩⟩⟩⟩⟩⟩⟩⟩⟩⟩
theorem am_mc5 : ∀ k ∈ [65, 66, 67, 68, 69, 70, 71, 72, 73, 74, 75, 76, 77], am_mp k := List.forall_mem_cons.mpr ⟨mk_X4_mesh, List.forall_mem_cons.mpr ⟨mk_X4_station, List.forall_mem_cons.mpr ⟨mk_X4_slot, List.forall_mem_cons.mpr ⟨mk_X4_cycle, List.forall_mem_cons.mpr ⟨mk_X4_frame, List.forall_mem_cons.mpr ⟨mk_X4_give, List.forall_mem_cons.mpr ⟨mk_X4_join, List.forall_mem_cons.mpr ⟨mk_X4_part, List.forall_mem_cons.mpr ⟨mk_X4_undo, List.forall_mem_cons.mpr ⟨mk_X4_keep, List.forall_mem_cons.mpr ⟨mk_X4_back, List.forall_mem_cons.mpr ⟨mk_X4_phase, List.forall_mem_cons.mpr ⟨mk_X4_after, fun _ h => absurd h List.not_mem_nil⟩⟩⟩⟩⟩⟩⟩⟩⟩⟩⟩⟩⟩
theorem am_mc6 : ∀ k ∈ [78, 79, 80, 81, 82, 83, 84, 85, 86, 87, 88, 89, 90], am_mp k := List.forall_mem_cons.mpr ⟨mk_X4_spoils, List.forall_mem_cons.mpr ⟨mk_X4_fewest, List.forall_mem_cons.mpr ⟨mk_X4_hops, List.forall_mem_cons.mpr ⟨mk_X4_tally, List.forall_mem_cons.mpr ⟨mk_X4_append, List.forall_mem_cons.mpr ⟨mk_X4_reckon, List.forall_mem_cons.mpr ⟨mk_X4_pop, List.forall_mem_cons.mpr ⟨mk_X4_each, List.forall_mem_cons.mpr ⟨mk_X4_drop, List.forall_mem_cons.mpr ⟨mk_X4_told, List.forall_mem_cons.mpr ⟨mk_X4_numbersOfAll, List.forall_mem_cons.mpr ⟨mk_X4_isTally, List.forall_mem_cons.mpr ⟨mk_X4_isNumber, fun _ h => absurd h List.not_mem_nil⟩⟩⟩⟩⟩⟩⟩⟩⟩⟩⟩⟩⟩
theorem am_mc7 : ∀ k ∈ [91, 92, 93, 94, 95, 96, 97, 98, 99, 100, 101, 102, 103], am_mp k := List.forall_mem_cons.mpr ⟨mk_X4_has, List.forall_mem_cons.mpr ⟨mk_X5_init, List.forall_mem_cons.mpr ⟨mk_X5_in, List.forall_mem_cons.mpr ⟨mk_X5_has, List.forall_mem_cons.mpr ⟨mk_X5_ones, List.forall_mem_cons.mpr ⟨mk_X5_copyRow, List.forall_mem_cons.mpr ⟨mk_X5_anew, List.forall_mem_cons.mpr ⟨mk_X5_write, List.forall_mem_cons.mpr ⟨mk_X5_erase, List.forall_mem_cons.mpr ⟨mk_X5_isSmall, List.forall_mem_cons.mpr ⟨mk_X5_isDigit, List.forall_mem_cons.mpr ⟨mk_X5_nextToken, List.forall_mem_cons.mpr ⟨mk_X5_wordHere, fun _ h => absurd h List.not_mem_nil⟩⟩⟩⟩⟩⟩⟩⟩⟩⟩⟩⟩⟩
theorem am_mc8 : ∀ k ∈ [104, 105, 106, 107, 108, 109, 110, 111, 112, 113, 114, 115, 116], am_mp k := List.forall_mem_cons.mpr ⟨mk_X5_number, List.forall_mem_cons.mpr ⟨mk_X5_readsRest, List.forall_mem_cons.mpr ⟨mk_X5_joins, List.forall_mem_cons.mpr ⟨mk_X5_does, List.forall_mem_cons.mpr ⟨mk_X5_readsClause, List.forall_mem_cons.mpr ⟨mk_X5_reads, List.forall_mem_cons.mpr ⟨mk_X5_fault, List.forall_mem_cons.mpr ⟨mk_X5_mesh, List.forall_mem_cons.mpr ⟨mk_X5_isStation, List.forall_mem_cons.mpr ⟨mk_X5_isSlot, List.forall_mem_cons.mpr ⟨mk_X5_near, List.forall_mem_cons.mpr ⟨mk_X5_holders, List.forall_mem_cons.mpr ⟨mk_X5_isCovered, fun _ h => absurd h List.not_mem_nil⟩⟩⟩⟩⟩⟩⟩⟩⟩⟩⟩⟩⟩
theorem am_mc9 : ∀ k ∈ [117, 118, 119, 120, 121, 122, 123, 124, 125, 126, 127, 128, 129], am_mp k := List.forall_mem_cons.mpr ⟨mk_X5_covered, List.forall_mem_cons.mpr ⟨mk_X5_contenders, List.forall_mem_cons.mpr ⟨mk_X5_clashesBy, List.forall_mem_cons.mpr ⟨mk_X5_clashes, List.forall_mem_cons.mpr ⟨mk_X5_station, List.forall_mem_cons.mpr ⟨mk_X5_slot, List.forall_mem_cons.mpr ⟨mk_X5_lot, List.forall_mem_cons.mpr ⟨mk_X5_asking, List.forall_mem_cons.mpr ⟨mk_X5_hearing, List.forall_mem_cons.mpr ⟨mk_X5_first, List.forall_mem_cons.mpr ⟨mk_X5_settles, List.forall_mem_cons.mpr ⟨mk_X5_nearTo, List.forall_mem_cons.mpr ⟨mk_X5_shares, fun _ h => absurd h List.not_mem_nil⟩⟩⟩⟩⟩⟩⟩⟩⟩⟩⟩⟩⟩
theorem am_mc10 : ∀ k ∈ [130, 131, 132, 133, 134, 135, 136, 137, 138, 139, 140, 141, 142], am_mp k := List.forall_mem_cons.mpr ⟨mk_X5_cycleOf, List.forall_mem_cons.mpr ⟨mk_X5_frameOf, List.forall_mem_cons.mpr ⟨mk_X5_keepPast, List.forall_mem_cons.mpr ⟨mk_X5_cycle, List.forall_mem_cons.mpr ⟨mk_X5_frame, List.forall_mem_cons.mpr ⟨mk_X5_give, List.forall_mem_cons.mpr ⟨mk_X5_areTwo, List.forall_mem_cons.mpr ⟨mk_X5_join, List.forall_mem_cons.mpr ⟨mk_X5_part, List.forall_mem_cons.mpr ⟨mk_X5_undo, List.forall_mem_cons.mpr ⟨mk_X5_keep, List.forall_mem_cons.mpr ⟨mk_X5_back, List.forall_mem_cons.mpr ⟨mk_X5_phase, fun _ h => absurd h List.not_mem_nil⟩⟩⟩⟩⟩⟩⟩⟩⟩⟩⟩⟩⟩
theorem am_mc11 : ∀ k ∈ [143, 144, 145, 146, 147, 148, 149, 150, 151, 152, 153, 154, 155], am_mp k := List.forall_mem_cons.mpr ⟨mk_X5_isDone, List.forall_mem_cons.mpr ⟨mk_X5_after, List.forall_mem_cons.mpr ⟨mk_X5_spoils, List.forall_mem_cons.mpr ⟨mk_X5_fewest, List.forall_mem_cons.mpr ⟨mk_X5_hops, List.forall_mem_cons.mpr ⟨mk_X5_isTally, List.forall_mem_cons.mpr ⟨mk_X5_isNumber, List.forall_mem_cons.mpr ⟨mk_X5_tally, List.forall_mem_cons.mpr ⟨mk_X5_append, List.forall_mem_cons.mpr ⟨mk_X5_reckon, List.forall_mem_cons.mpr ⟨mk_X5_pop, List.forall_mem_cons.mpr ⟨mk_X5_held, List.forall_mem_cons.mpr ⟨mk_X5_each, fun _ h => absurd h List.not_mem_nil⟩⟩⟩⟩⟩⟩⟩⟩⟩⟩⟩⟩⟩
theorem am_mc12 : ∀ k ∈ [156, 157, 158, 159, 160, 161, 162, 163, 164, 165, 166, 167, 168], am_mp k := List.forall_mem_cons.mpr ⟨mk_X5_drop, List.forall_mem_cons.mpr ⟨mk_X5_links, List.forall_mem_cons.mpr ⟨mk_X5_allNumbers, List.forall_mem_cons.mpr ⟨mk_X5_told, List.forall_mem_cons.mpr ⟨mk_J6_bitCount_0f7a4, List.forall_mem_cons.mpr ⟨mk_J0_length_8abf5, List.forall_mem_cons.mpr ⟨mk_J0_charAt_5068e, List.forall_mem_cons.mpr ⟨mk_J0_coder_7d493, List.forall_mem_cons.mpr ⟨mk_J0_isLatin1_aae02, List.forall_mem_cons.mpr ⟨mk_J0_checkIndex_df160, List.forall_mem_cons.mpr ⟨mk_J1_charAt_3b067, List.forall_mem_cons.mpr ⟨mk_J7_fill_53178, List.forall_mem_cons.mpr ⟨mk_J3_checkIndex_8e157, fun _ h => absurd h List.not_mem_nil⟩⟩⟩⟩⟩⟩⟩⟩⟩⟩⟩⟩⟩
theorem am_mp_all (k : Nat) (hk : k < 169) : am_mp k := by
  have h : (0 ≤ k ∧ k < 13) ∨ (13 ≤ k ∧ k < 26) ∨ (26 ≤ k ∧ k < 39) ∨ (39 ≤ k ∧ k < 52) ∨ (52 ≤ k ∧ k < 65) ∨ (65 ≤ k ∧ k < 78) ∨ (78 ≤ k ∧ k < 91) ∨ (91 ≤ k ∧ k < 104) ∨ (104 ≤ k ∧ k < 117) ∨ (117 ≤ k ∧ k < 130) ∨ (130 ≤ k ∧ k < 143) ∨ (143 ≤ k ∧ k < 156) ∨ (156 ≤ k ∧ k < 169) := by omega
  rcases h with h | h | h | h | h | h | h | h | h | h | h | h | h
  · exact am_mc0 k (by simp only [List.mem_cons, List.not_mem_nil, or_false]; omega)
  · exact am_mc1 k (by simp only [List.mem_cons, List.not_mem_nil, or_false]; omega)
  · exact am_mc2 k (by simp only [List.mem_cons, List.not_mem_nil, or_false]; omega)
  · exact am_mc3 k (by simp only [List.mem_cons, List.not_mem_nil, or_false]; omega)
  · exact am_mc4 k (by simp only [List.mem_cons, List.not_mem_nil, or_false]; omega)
  · exact am_mc5 k (by simp only [List.mem_cons, List.not_mem_nil, or_false]; omega)
  · exact am_mc6 k (by simp only [List.mem_cons, List.not_mem_nil, or_false]; omega)
  · exact am_mc7 k (by simp only [List.mem_cons, List.not_mem_nil, or_false]; omega)
  · exact am_mc8 k (by simp only [List.mem_cons, List.not_mem_nil, or_false]; omega)
  · exact am_mc9 k (by simp only [List.mem_cons, List.not_mem_nil, or_false]; omega)
  · exact am_mc10 k (by simp only [List.mem_cons, List.not_mem_nil, or_false]; omega)
  · exact am_mc11 k (by simp only [List.mem_cons, List.not_mem_nil, or_false]; omega)
  · exact am_mc12 k (by simp only [List.mem_cons, List.not_mem_nil, or_false]; omega)
theorem am_mk_all (k : Nat) (hk : k < 169) : am_mk k := (am_mp_all k hk).1
def am_okB (k : Nat) : Bool := (tm_k k).all (fun q => decide (decode (tm_b k) q.1 = .ok (q.2.1, q.2.2.1)) && am_ck k q)
theorem am_okk_of {k : Nat} (h : am_okB k = true) : am_okk k := by
  intro q hq
  have h1 := List.all_eq_true.mp h q hq
  obtain ⟨q1, q2⟩ := am_and h1
  exact ⟨of_decide_eq_true q1, q2⟩
