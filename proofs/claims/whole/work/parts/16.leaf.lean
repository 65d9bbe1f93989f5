/-! SETS AS BITS; THE LEAVES: has, ones, bitCount, in, fill -/
theorem up_to {P : Nat → Prop} (n : Nat) (hz : P n) (hs : ∀ i, i < n → P (i + 1) → P i) : ∀ i, i ≤ n → P i := by
  intro i hi
  obtain ⟨d, hd⟩ : ∃ d, n - i = d := ⟨_, rfl⟩
  induction d generalizing i with
  | zero =>
    have e : i = n := by omega
    rw [e]
    exact hz
  | succ d ih => exact hs i (by omega) (ih (i + 1) (by omega) (by omega))
theorem br2 {c A B : Prop} [Decidable c] (h1 : c → A) (h2 : ¬ c → B) : if c then A else B := by
  by_cases c
  · rename_i z; rw [if_pos z]; exact h1 z
  · rename_i z; rw [if_neg z]; exact h2 z
theorem fit_i (x : Int32) : am_fit .int x := rfl
theorem fit_0 : am_fit .boolean 0 := by unfold am_fit; decide +kernel
theorem fit_1 : am_fit .boolean 1 := by unfold am_fit; decide +kernel
theorem fit_b (b : Bool) : am_fit .boolean (if b then 1 else 0) := by
  cases b
  · exact fit_0
  · exact fit_1
theorem bz_ne (b : Bool) : ((if b then (1 : Int32) else 0) = 0) = (b = false) := by
  cases b
  · simp
  · simp
theorem bz_eq1 (b : Bool) : ((if b then (1 : Int32) else 0) = 1) = (b = true) := by
  cases b
  · simp
  · simp
def bs (P : Nat → Bool) : Nat → Int32
  | 0 => 0
  | n + 1 => if P n then bs P n ||| ((1 : Int32) <<< (nI n &&& 31)) else bs P n
theorem b_1 : ∀ i, i < 32 → bt 1 i = decide (i = 0) := by decide +kernel
theorem bt_one {v i : Nat} (hv : v < 32) (hi : i < 32) : bt ((1 : Int32) <<< (nI v &&& 31)) i = decide (i = v) := by
  rw [b_shl v hv 1 hi]
  rcases Nat.lt_or_ge i v with h | h
  · rw [decide_eq_false (by omega), decide_eq_false (by omega)]; rfl
  · rw [decide_eq_true h, b_1 _ (by omega)]
    simp only [Bool.true_and]
    exact decide_eq_decide.mpr (by omega)
theorem bt_bs (P : Nat → Bool) : ∀ {n : Nat}, n ≤ 31 → ∀ {i : Nat}, i < 32 → bt (bs P n) i = (decide (i < n) && P i) := by
  intro n
  induction n with
  | zero => intro _ i _; simp [bs, b_0]
  | succ n ih =>
    intro hn i hi
    unfold bs
    by_cases hP : P n = true
    · rw [if_pos hP, b_or, ih (by omega) hi, bt_one (by omega) hi]
      by_cases e : i = n
      · subst e; simp [hP]
      · by_cases e2 : i < n
        · simp [e2, e, show i < n + 1 by omega]
        · simp [e2, e, show ¬ i < n + 1 by omega]
    · rw [if_neg hP, ih (by omega) hi]
      by_cases e : i = n
      · subst e; simp [hP]
      · by_cases e2 : i < n
        · simp [e2, show i < n + 1 by omega]
        · simp [e2, show ¬ i < n + 1 by omega]
theorem bs_cong {P Q : Nat → Bool} : ∀ {n : Nat}, (∀ i, i < n → P i = Q i) → bs P n = bs Q n := by
  intro n
  induction n with
  | zero => intro _; rfl
  | succ n ih =>
    intro h
    unfold bs
    rw [ih (fun i hi => h i (by omega)), h n (by omega)]
theorem bs_succ (P : Nat → Bool) (n : Nat) : bs P (n + 1) = if P n then bs P n ||| ((1 : Int32) <<< (nI n &&& 31)) else bs P n := rfl
theorem bt_sh {x : Int32} {k : Nat} (hk : k < 32) : (x >>> (nI k &&& 31)) &&& 1 = if bt x k then 1 else 0 := by
  apply b_ext
  intro i hi
  rw [b_and, b_sshr k hk x hi, b_1 i hi]
  by_cases e : i = 0
  · subst e
    simp only [Nat.add_zero, hk, if_true, decide_true, Bool.and_true]
    cases bt x k
    · exact (b_0 0).symm
    · rfl
  · rw [decide_eq_false e, Bool.and_false]
    cases bt x k
    · exact (b_0 i).symm
    · show false = bt 1 i
      rw [b_1 i hi, decide_eq_false e]
/-- of eight bits -/
def sm (x : Int32) : Prop := ∀ i, 8 ≤ i → i < 32 → bt x i = false
theorem sm_val {x : Int32} (h : sm x) : ∃ a, a < 256 ∧ x = nI a := by
  have e : x = x &&& 255 := by
    apply b_ext
    intro i hi
    rw [b_and, b_255]
    by_cases q : i < 8
    · simp [q]
    · rw [h i (by omega) hi]; rfl
  obtain ⟨j, hj, ej⟩ := pk_andE x (m := 255) 8 (by decide)
  exact ⟨j, hj, by rw [e, ej]⟩
theorem sm_and {x y : Int32} (h : sm x) : sm (x &&& y) := fun i h1 h2 => by rw [b_and, h i h1 h2]; rfl
theorem sm_and2 {x y : Int32} (h : sm y) : sm (x &&& y) := fun i h1 h2 => by rw [b_and, h i h1 h2, Bool.and_false]
theorem sm_or {x y : Int32} (h : sm x) (g : sm y) : sm (x ||| y) := fun i h1 h2 => by rw [b_or, h i h1 h2, g i h1 h2]; rfl
theorem sm_bs {P : Nat → Bool} {n : Nat} (hn : n ≤ 8) : sm (bs P n) := fun i h1 h2 => by rw [bt_bs P (by omega) h2, decide_eq_false (by omega)]; rfl
theorem sm_0 : sm 0 := fun i _ _ => b_0 i
theorem sm_ext {x y : Int32} (hx : sm x) (hy : sm y) (h : ∀ i, i < 8 → bt x i = bt y i) : x = y := b_ext fun i hi => by
  rcases Nat.lt_or_ge i 8 with q | q
  · exact h i q
  · rw [hx i q hi, hy i q hi]
/-- how many of eight -/
def pop (x : Int32) : Nat := fb_ct (bt x) 8
theorem pop_le (x : Int32) : pop x ≤ 8 := fb_ct_le _ _
theorem pop_zero {x : Int32} (hx : sm x) : pop x = 0 ↔ x = 0 := by
  unfold pop
  rw [fb_ct_zero]
  constructor
  · intro h
    exact sm_ext hx sm_0 (fun i hi => by rw [h i hi, b_0])
  · intro h k _
    rw [h, b_0]
def bc1 (a : Int32) : Int32 := a - ((Int32.toUInt32 a >>> (Int32.toUInt32 (1 : Int32) &&& Int32.toUInt32 31)).toInt32 &&& (1431655765 : Int32))
def bc2 (l0 : Int32) : Int32 := (l0 &&& (858993459 : Int32)) + ((Int32.toUInt32 l0 >>> (Int32.toUInt32 (2 : Int32) &&& Int32.toUInt32 31)).toInt32 &&& (858993459 : Int32))
def bc3 (l0 : Int32) : Int32 := (l0 + (Int32.toUInt32 l0 >>> (Int32.toUInt32 (4 : Int32) &&& Int32.toUInt32 31)).toInt32) &&& (252645135 : Int32)
def bc4 (l0 : Int32) : Int32 := l0 + (Int32.toUInt32 l0 >>> (Int32.toUInt32 (8 : Int32) &&& Int32.toUInt32 31)).toInt32
def bc5 (l0 : Int32) : Int32 := (l0 + (Int32.toUInt32 l0 >>> (Int32.toUInt32 (16 : Int32) &&& Int32.toUInt32 31)).toInt32) &&& (63 : Int32)
theorem bc_all : ∀ a, a < 256 → bc5 (bc4 (bc3 (bc2 (bc1 (nI a))))) = nI (pop (nI a)) := by decide +kernel
theorem lg_lt (x y : Int32) : lg_cmp x.toInt64 y.toInt64 < 0 ↔ x < y := by
  have e1 : x.toInt64.toInt = x.toInt := Int32.toInt_toInt64 x
  have e2 : y.toInt64.toInt = y.toInt := Int32.toInt_toInt64 y
  unfold lg_cmp
  by_cases h1 : x.toInt64 > y.toInt64
  · rw [if_pos h1]
    have := Int64.lt_iff_toInt_lt.mp h1
    rw [e1, e2] at this
    constructor
    · intro z; exact absurd z (by decide +kernel)
    · intro z; have := Int32.lt_iff_toInt_lt.mp z; omega
  · rw [if_neg h1]
    by_cases h2 : x.toInt64 = y.toInt64
    · rw [if_pos h2]
      have h3 : x.toInt = y.toInt := by rw [← e1, ← e2, h2]
      constructor
      · intro z; exact absurd z (by decide +kernel)
      · intro z; have := Int32.lt_iff_toInt_lt.mp z; omega
    · rw [if_neg h2]
      constructor
      · intro _
        have a1 : ¬ y.toInt < x.toInt := fun z => h1 (Int64.lt_iff_toInt_lt.mpr (by rw [e1, e2]; exact z))
        have a2 : ¬ x.toInt = y.toInt := fun z => h2 (Int64.toInt_inj.mp (by rw [e1, e2]; exact z))
        exact Int32.lt_iff_toInt_lt.mpr (by omega)
      · intro _; decide +kernel
theorem lg_gt (x y : Int32) : 0 < lg_cmp x.toInt64 y.toInt64 ↔ y < x := by
  have e1 : x.toInt64.toInt = x.toInt := Int32.toInt_toInt64 x
  have e2 : y.toInt64.toInt = y.toInt := Int32.toInt_toInt64 y
  unfold lg_cmp
  by_cases h1 : x.toInt64 > y.toInt64
  · rw [if_pos h1]
    have := Int64.lt_iff_toInt_lt.mp h1
    rw [e1, e2] at this
    exact ⟨fun _ => Int32.lt_iff_toInt_lt.mpr this, fun _ => by decide +kernel⟩
  · rw [if_neg h1]
    have a1 : ¬ y < x := fun z => h1 (Int64.lt_iff_toInt_lt.mpr (by rw [e1, e2]; exact Int32.lt_iff_toInt_lt.mp z))
    by_cases h2 : x.toInt64 = y.toInt64
    · rw [if_pos h2]
      exact ⟨fun z => absurd z (by decide +kernel), fun z => absurd z a1⟩
    · rw [if_neg h2]
      exact ⟨fun z => absurd z (by decide +kernel), fun z => absurd z a1⟩
section LF
variable {L : Nat} {xs : Nat → Int32} {h : am_H}
theorem ok_has {x : Int32} {k : Nat} (hk : k < 32) : am_ok L xs m_X4_has [.int x, .int (nI k)] h (some (if bt x k then 1 else 0)) h := by
  refine en_X4_has rfl rfl (ch_X4_has_0 ?_)
  rw [bt_sh hk]
  cases bt x k
  · exact ⟨fit_0, rfl, rfl⟩
  · exact ⟨fit_1, rfl, rfl⟩
theorem ok_hasD {x : Int32} {k : Nat} (hk : k < 32) : am_ok L xs m_X5_has [.int x, .int (nI k)] h (some (if bt x k then 1 else 0)) h := by
  refine en_X5_has rfl rfl (ch_X5_has_0 ?_)
  rw [bt_sh hk]
  cases bt x k
  · exact ⟨fit_0, rfl, rfl⟩
  · exact ⟨fit_1, rfl, rfl⟩
theorem ok_bitCount {x : Int32} (hx : sm x) : am_ok L xs m_J6_bitCount_0f7a4 [.int x] h (some (nI (pop x))) h := by
  obtain ⟨a, ha, rfl⟩ := sm_val hx
  exact en_J6_bitCount_0f7a4 rfl rfl (ch_J6_bitCount_0f7a4_0 (ch_J6_bitCount_0f7a4_10 (ch_J6_bitCount_0f7a4_24 (ch_J6_bitCount_0f7a4_34 (ch_J6_bitCount_0f7a4_41 ⟨rfl, congrArg some (bc_all a ha), rfl⟩)))))
theorem ok_ones {x : Int32} : am_ok L xs m_X5_ones [.int x] h (some (nI (pop x))) h := by
  refine en_X5_ones rfl rfl (ch_X5_ones_0 ?_)
  have key := up_to (P := fun i => am_wa L xs m_X5_ones h (some (nI (pop x))) h 4 [.int x, .int (nI (fb_ct (bt x) i)), .int (nI i)] [] h) 8 ?_ ?_ 0 (by omega)
  · exact key
  · refine ch_X5_ones_4 ?_
    rw [if_neg (by decide +kernel)]
    exact ⟨rfl, rfl, rfl⟩
  · intro i hi ih
    refine ch_X5_ones_4 ?_
    rw [if_pos (show nI i < 8 from nI_lt (b := 8) hi (by omega)), bt_sh (by omega)]
    have e : nI (fb_ct (bt x) i) + (if bt x i then 1 else 0) = nI (fb_ct (bt x) (i + 1)) := by
      rw [fb_ct_succ]
      cases bt x i
      · simp
      · exact (nI_succ _).symm
    rw [e, ← nI_succ]
    exact ih
theorem ok_in {x a b : Int32} : am_ok L xs m_X5_in [.long x.toInt64, .long a.toInt64, .long b.toInt64] h (some (if decide (¬ x < a ∧ ¬ b < x) then 1 else 0)) h := by
  refine en_X5_in rfl rfl (ch_X5_in_0 ?_)
  refine br2 (fun c => ?_) (fun c => br2 (fun d => ?_) (fun d => ?_))
  · rw [lg_lt] at c
    rw [if_neg (by simp [c])]
    exact ⟨fit_0, rfl, rfl⟩
  · rw [lg_gt] at d
    rw [if_neg (by simp [d])]
    exact ⟨fit_0, rfl, rfl⟩
  · rw [lg_lt] at c
    rw [lg_gt] at d
    rw [if_pos (by simp [c, d])]
    exact ⟨fit_1, rfl, rfl⟩
end LF
