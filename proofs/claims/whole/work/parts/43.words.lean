/-! THE CLASS'S WORDS: text constants -/
section WD
variable {L : Nat} {xs : Nat → Int32} {h : am_H} {b c : Nat} {X D : sg_S} {ln e : Nat} {f : Nat → Int32}
theorem ok_ci3 {a d : Int32} (h1 : ¬ a < 0) (h2 : a < d) : am_ok L xs m_J3_checkIndex_8e157 [.int a, .int d, .retAddr 0] h (some a) h := by
  refine am_ok_of (ls := [.int a, .int d, .retAddr 0]) mk_J3_checkIndex_8e157.2.1 mk_J3_checkIndex_8e157.2.2 ⟨fun z => (by cases z), fun z => absurd z (by decide +kernel)⟩ (fun z => absurd z (by decide +kernel)) ⟨fun z => absurd z (by decide +kernel), fun z => absurd z (by decide +kernel)⟩ rfl rfl ?_ (ch_J3_checkIndex_8e157_0 ?_)
  · intro g hg
    refine ⟨?_, fun _ hq => hq⟩
    show (lg_sl [.int a, .int d, g.2.2.2.2]).length ≤ _
    generalize g.2.2.2.2 = w at hg
    cases w <;> first | exact absurd (show 2 = 1 from hg) (by decide) | exact Nat.le_of_ble_eq_true rfl
  · rw [if_neg h1, if_pos h2]
    exact ⟨fit_i _, rfl, rfl⟩
theorem ok_ci0 {a d : Int32} (h1 : ¬ a < 0) (h2 : a < d) : am_ok L xs m_J0_checkIndex_df160 [.int a, .int d] h none h := en_J0_checkIndex_df160 rfl rfl (ch_J0_checkIndex_df160_0 ⟨_, _, ok_ci3 h1 h2, rfl, rfl⟩)
theorem ble_s : ∀ i, i < 4 → (Nat.ble 1000001 (1000001 + i) && Nat.ble (1000001 + i) 1000004) = true := by decide +kernel
theorem ble_t : ∀ i, i < 4 → (Nat.ble 1000011 (1000001 + i + 10) && Nat.ble (1000001 + i + 10) 1000014) = true := by decide +kernel
theorem am_if_t {b : Bool} {P : Prop} (e : b = true) (h : P) : am_if b P := by subst e; exact h
theorem fit_y0 : am_fit .byte 0 := by unfold am_fit; decide +kernel
theorem ok_coder {i : Nat} (hi : i < 4) : am_ok L xs m_J0_coder_7d493 [.ref (1000001 + i)] h (some 0) h := by
  refine en_J0_coder_7d493 ⟨by omega, by omega⟩ rfl rfl (ch_J0_coder_7d493_0 ?_)
  rw [if_neg (by decide)]
  exact am_if_t (ble_s i hi) ⟨fit_y0, rfl, rfl⟩
theorem ok_latin {i : Nat} (hi : i < 4) : am_ok L xs m_J0_isLatin1_aae02 [.ref (1000001 + i)] h (some 1) h := by
  refine en_J0_isLatin1_aae02 ⟨by omega, by omega⟩ rfl rfl (ch_J0_isLatin1_aae02_0 ?_)
  rw [if_neg (by decide)]
  refine am_if_t (ble_s i hi) ?_
  rw [if_pos rfl]
  exact ⟨fit_1, rfl, rfl⟩
theorem sl_sh : ∀ i, i < 4 → (nI (am_sl (1000001 + i + 10 - 1000011))) >>> ((0 : Int32) &&& 31) = nI (am_sl i) := by decide +kernel
theorem ok_len {i : Nat} (hi : i < 4) : am_ok L xs m_J0_length_8abf5 [.ref (1000001 + i)] h (some (nI (am_sl i))) h := by
  refine en_J0_length_8abf5 ⟨by omega, by omega⟩ rfl rfl (ch_J0_length_8abf5_0 ?_)
  refine am_if_t (ble_s i hi) (am_if_t (ble_t i hi) ⟨_, _, ok_coder hi, fit_i _, ?_, rfl⟩)
  rw [sl_sh i hi]
theorem sb_ch : ∀ i, i < 4 → ∀ j, j < am_sl i → am_fit .char (Int32.toUInt32 ((am_sb (1000001 + i + 10 - 1000011) (nI j).toNatClampNeg) &&& 255) % 65536).toInt32 ∧ (Int32.toUInt32 ((am_sb (1000001 + i + 10 - 1000011) (nI j).toNatClampNeg) &&& 255) % 65536).toInt32 = am_sb i j := by
  unfold am_fit
  decide +kernel
theorem sl_le : ∀ i, i < 4 → am_sl i ≤ 5 ∧ 4 ≤ am_sl i := by decide +kernel
theorem ok_chat {i j : Nat} (hi : i < 4) (hj : j < am_sl i) : am_ok L xs m_J0_charAt_5068e [.ref (1000001 + i), .int (nI j)] h (some (am_sb i j)) h := by
  have h5 := sl_le i hi
  refine en_J0_charAt_5068e ⟨by omega, by omega⟩ rfl rfl (ch_J0_charAt_5068e_0 ⟨_, _, ok_latin hi, ?_⟩)
  rw [if_neg (by decide)]
  have hs := sb_ch i hi j hj
  have e11 : 1000001 + i + 10 - 1000011 = i := by omega
  have c1 : am_ok L xs m_J1_charAt_3b067 [.ref (1000001 + i + 10), .int (nI j)] h (some (am_sb i j)) h := by
    refine en_J1_charAt_3b067 rfl rfl (ch_J1_charAt_3b067_0 ?_)
    refine am_if_t (ble_t i hi) ⟨_, ok_ci0 (nI_nlt (a := j) (b := 0) (by omega) (by omega)) (by rw [e11]; exact nI_lt hj (by omega)), am_if_t (ble_t i hi) ⟨?_, hs.1, ?_, rfl⟩⟩
    · rw [e11]
      exact nI_in hj (by omega)
    · rw [hs.2]
  refine am_if_t (ble_s i hi) ⟨_, _, c1, ?_, rfl, rfl⟩
  rw [← hs.2]; exact hs.1
def wdB (f : Nat → Int32) (s t i : Nat) : Bool := decide (t - s = am_sl i ∧ ∀ j, j < am_sl i → f (s + j) = am_sb i j)
theorem ok_isWord {s t i : Nat} (hb : b + 1 < h.1) (hi : i < 4) (h2 : X.1 2 = nI s) (h3 : X.1 3 = nI t) (hst : s ≤ t) (ht : t ≤ 200) : am_ok L xs m_X3_isWord [.ref b, .ref (1000001 + i)] (ob sgX h b X) (some (if wdB (X.2 0) s t i then 1 else 0)) (ob sgX h b X) := by
  have h5 := sl_le i hi
  refine en_X3_isWord (cX hb) rfl rfl (ch_X3_isWord_0 ?_)
  simp only [cX hb, gX_0 hb, gX_1 hb, gX_2 hb, gX_3 hb, gX_4 hb, gX_5 hb, pX_1 hb, pX_2 hb, pX_3 hb, pX_4 hb, pX_5 hb, am_b_some, h2, h3]
  have es : nI t - nI s = nI (t - s) := by
    obtain ⟨d, rfl⟩ : ∃ d, t = s + d := ⟨t - s, by omega⟩
    rw [show s + d - s = d by omega, ← nI_add, Int32.add_comm, Int32.add_sub_cancel]
  refine ⟨_, _, ok_len hi, ?_⟩
  rw [es]
  refine br2 (fun q => ?_) (fun q => ?_)
  · have q := (nI_eq (by omega) (by omega)).mp q
    have key := up_to (P := fun j => (∀ k, k < j → X.2 0 (s + k) = am_sb i k) → am_wa L xs m_X3_isWord (ob sgX h b X) (some (if wdB (X.2 0) s t i then 1 else 0)) (ob sgX h b X) 20 [.ref b, .ref (1000001 + i), .int (nI j)] [] (ob sgX h b X)) (am_sl i) ?_ ?_ 0 (by omega) (fun k hk => by omega)
    · exact key
    · intro hall
      refine ch_X3_isWord_20 ⟨_, _, ok_len hi, ?_⟩
      rw [if_neg (nI_irr _), show wdB (X.2 0) s t i = true from decide_eq_true ⟨q, hall⟩]
      (first | exact ⟨fit_1, rfl, rfl⟩ | exact ⟨fit_1, rfl, trivial⟩ | exact ⟨fit_1, trivial, rfl⟩ | exact ⟨fit_1, trivial, trivial⟩)
    · intro j hj ih hall
      refine ch_X3_isWord_20 ⟨_, _, ok_len hi, ?_⟩
      rw [if_pos (nI_lt hj (by omega))]
      simp only [cX hb, gX_0 hb, gX_1 hb, gX_2 hb, gX_3 hb, gX_4 hb, gX_5 hb, pX_1 hb, pX_2 hb, pX_3 hb, pX_4 hb, pX_5 hb, am_b_some, h2, nI_add, lX_0 hb (show s + j < 200 by omega)]
      refine ⟨_, _, ok_chat hi hj, br2 (fun q2 => ?_) (fun q2 => ?_)⟩
      · rw [← nI_succ]
        refine ih (fun k hk => ?_)
        by_cases ek : k = j
        · rw [ek]; exact q2
        · exact hall k (by omega)
      · rw [show wdB (X.2 0) s t i = false from decide_eq_false (fun z => q2 (z.2 j hj))]
        (first | exact ⟨fit_0, rfl, rfl⟩ | exact ⟨fit_0, rfl, trivial⟩ | exact ⟨fit_0, trivial, rfl⟩ | exact ⟨fit_0, trivial, trivial⟩)
  · rw [show wdB (X.2 0) s t i = false from decide_eq_false (fun z => q (by rw [z.1]))]
    (first | exact ⟨fit_0, rfl, rfl⟩ | exact ⟨fit_0, rfl, trivial⟩ | exact ⟨fit_0, trivial, rfl⟩ | exact ⟨fit_0, trivial, trivial⟩)
end WD
