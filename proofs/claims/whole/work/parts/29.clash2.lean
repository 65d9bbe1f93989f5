/-! CLASHES COUNTED TWO WAYS -/
theorem fb_sm_z : ∀ n, fb_sm (fun _ => 0) n = 0 := fun n => by rw [fb_sm_const]; simp
theorem fb_sm_swap (f : Nat → Nat → Nat) (m : Nat) : ∀ n, fb_sm (fun u => fb_sm (f u) m) n = fb_sm (fun k => fb_sm (fun u => f u k) n) m := by
  intro n
  induction n with
  | zero =>
    show 0 = fb_sm (fun k => 0) m
    rw [fb_sm_z]
  | succ n ih =>
    rw [fb_sm_succ, ih, ← fb_sm_add]
    rfl
theorem fb_sm_sym {g : Nat → Nat → Nat} {n : Nat} (hs : ∀ u v, u < n → v < n → g u v = g v u) (hz : ∀ u, u < n → g u u = 0) : fb_sm (fun u => fb_sm (g u) n) n = 2 * fb_sm (fun u => fb_sm (fun k => if u < k then g u k else 0) n) n := by
  have e1 : fb_sm (fun u => fb_sm (g u) n) n = fb_sm (fun u => fb_sm (fun k => if u < k then g u k else 0) n + fb_sm (fun k => if k < u then g k u else 0) n) n := by
    refine fb_sm_cong (fun u hu => ?_)
    rw [← fb_sm_add]
    refine fb_sm_cong (fun k hk => ?_)
    rcases Nat.lt_trichotomy u k with q | q | q
    · rw [if_pos q, if_neg (by omega)]; rfl
    · subst q
      rw [if_neg (by omega), hz u hu]
    · rw [if_neg (by omega), if_pos q, hs u k hu hk, Nat.zero_add]
  rw [e1, fb_sm_add, fb_sm_swap (fun u k => if k < u then g k u else 0)]
  omega
theorem fb_ct_sm (p : Nat → Bool) : ∀ n, fb_ct p n = fb_sm (fun i => if p i then 1 else 0) n := by
  intro n
  induction n with
  | zero => rfl
  | succ n ih => rw [fb_ct_succ, fb_sm_succ, ih]
theorem fb_sm_cut {f : Nat → Nat} {n m : Nat} (h : n ≤ m) (hz : ∀ k, n ≤ k → k < m → f k = 0) : fb_sm f m = fb_sm f n := by
  obtain ⟨d, rfl⟩ : ∃ d, m = n + d := ⟨m - n, by omega⟩
  rw [fb_sm_split, fb_sm_cong (g := fun _ => 0) (fun k hk => hz (n + k) (by omega) (by omega)), fb_sm_z, Nat.add_zero]
theorem bt_nearL (K : Nat → Int32) (v u : Nat) : ∀ m, bt (nearL K v m) u = true ↔ (bt (K v) u = true ∨ ∃ s, s < m ∧ bt (K v) s = true ∧ bt (K s) u = true) := by
  intro m
  induction m with
  | zero =>
    show bt (K v) u = true ↔ _
    constructor
    · exact Or.inl
    · rintro (h | ⟨s, hs, _⟩)
      · exact h
      · omega
  | succ m ih =>
    unfold nearL
    by_cases e : bt (K v) m = true
    · rw [if_pos e, b_or, Bool.or_eq_true, ih]
      constructor
      · rintro ((h | ⟨s, hs, h1, h2⟩) | h)
        · exact Or.inl h
        · exact Or.inr ⟨s, by omega, h1, h2⟩
        · exact Or.inr ⟨m, by omega, e, h⟩
      · rintro (h | ⟨s, hs, h1, h2⟩)
        · exact Or.inl (Or.inl h)
        · by_cases q : s = m
          · subst q; exact Or.inr h2
          · exact Or.inl (Or.inr ⟨s, by omega, h1, h2⟩)
    · rw [if_neg e, ih]
      constructor
      · rintro (h | ⟨s, hs, h1, h2⟩)
        · exact Or.inl h
        · exact Or.inr ⟨s, by omega, h1, h2⟩
      · rintro (h | ⟨s, hs, h1, h2⟩)
        · exact Or.inl h
        · by_cases q : s = m
          · subst q; exact absurd h1 e
          · exact Or.inr ⟨s, by omega, h1, h2⟩
theorem bt_near (K : Nat → Int32) (n : Nat) {v u : Nat} (hv : v < 32) (hu : u < 32) : bt (near K n v) u = true ↔ ((bt (K v) u = true ∨ ∃ s, s < n ∧ bt (K v) s = true ∧ bt (K s) u = true) ∧ ¬ u = v) := by
  unfold near
  rw [b_and, b_xor, b_m1 u hu, bt_one hv hu, Bool.and_eq_true, bt_nearL]
  simp
theorem near_sym {K : Nat → Int32} {n u v : Nat} (hK : wfL K n) (h8 : n ≤ 8) (hu : u < 8) (hv : v < 8) : bt (near K n u) v = bt (near K n v) u := by
  have one : ∀ u v, u < 8 → v < 8 → bt (near K n u) v = true → bt (near K n v) u = true := by
    intro u v hu hv h
    rw [bt_near K n (by omega) (by omega)] at h ⊢
    obtain ⟨h1, h2⟩ := h
    refine ⟨?_, fun e => h2 e.symm⟩
    rcases h1 with h1 | ⟨s, hs, h3, h4⟩
    · exact Or.inl (by rw [hK.2.2.1 v u hv hu]; exact h1)
    · exact Or.inr ⟨s, hs, by rw [hK.2.2.1 v s hv (by omega)]; exact h4, by rw [hK.2.2.1 s u (by omega) hu]; exact h3⟩
  cases e : bt (near K n u) v
  · cases e2 : bt (near K n v) u
    · rfl
    · rw [one v u hv hu e2] at e; exact absurd e (by decide)
  · rw [one u v hu hv e]
theorem near_self (K : Nat → Int32) (n : Nat) {v : Nat} (hv : v < 32) : bt (near K n v) v = false := by
  cases e : bt (near K n v) v
  · rfl
  · rw [bt_near K n hv hv] at e
    exact absurd rfl e.2
def cg (K H : Nat → Int32) (n s u v : Nat) : Nat := if bt (near K n u) v && (bt (H u) s && bt (H v) s) then 1 else 0
theorem cdG_cg {K H : Nat → Int32} {n s v : Nat} (h8 : n ≤ 8) (hv : v < n) : cdG K H n s v = fb_sm (cg K H n s v) n := by
  unfold cdG
  have eh : bt (holders H n s) v = bt (H v) s := by
    unfold holders
    rw [bt_bs _ (by omega) (by omega), decide_eq_true hv, Bool.true_and]
  rw [eh]
  by_cases e : bt (H v) s = true
  · rw [if_pos e]
    unfold pop
    rw [fb_ct_sm, fb_sm_cut h8 (fun k h1 h2 => ?_)]
    · refine fb_sm_cong (fun u hu => ?_)
      unfold cg
      rw [b_and, show bt (holders H n s) u = bt (H u) s by unfold holders; rw [bt_bs _ (by omega) (by omega), decide_eq_true hu, Bool.true_and], e, Bool.true_and]
    · rw [b_and, show bt (holders H n s) k = false by unfold holders; rw [bt_bs _ (by omega) (by omega), decide_eq_false (by omega), Bool.false_and], Bool.and_false]
      rfl
  · rw [if_neg e, fb_sm_cong (g := fun _ => 0) (fun u _ => ?_), fb_sm_z]
    unfold cg
    rw [show bt (H v) s = false by simpa using e]
    simp
theorem cdN_half {K H : Nat → Int32} {n s : Nat} (hK : wfL K n) (h8 : n ≤ 8) : cdN K H n s / 2 = fb_sm (fun u => fb_sm (fun k => if u < k then cg K H n s u k else 0) n) n := by
  unfold cdN
  rw [fb_sm_cong (g := fun v => fb_sm (cg K H n s v) n) (fun v hv => cdG_cg h8 hv), fb_sm_sym (g := cg K H n s) (fun u v hu hv => ?_) (fun u hu => ?_)]
  · omega
  · unfold cg
    rw [near_sym hK h8 (by omega) (by omega), Bool.and_comm (bt (H u) s)]
  · unfold cg
    rw [near_self K n (by omega)]
    rfl
theorem clG_mask {K H : Nat → Int32} {n m u k : Nat} (hm : m ≤ 8) : clG K H n (((1 : Int32) <<< (nI m &&& 31)) - 1) u k = fb_sm (fun s => if u < k then cg K H n s u k else 0) m := by
  unfold clG
  by_cases q : u < k
  · by_cases e : bt (near K n u) k = true
    · rw [if_pos ⟨q, e⟩]
      unfold pop
      rw [fb_ct_sm, fb_sm_cut hm (fun i h1 h2 => ?_)]
      · refine fb_sm_cong (fun s hs => ?_)
        unfold cg
        rw [if_pos q, e, b_and, b_and, bt_mask m (by omega) s (by omega), decide_eq_true hs, Bool.true_and, Bool.and_true]
      · rw [b_and, bt_mask m (by omega) i (by omega), decide_eq_false (by omega), Bool.and_false]
        rfl
    · rw [if_neg (fun z => e z.2), fb_sm_cong (g := fun _ => 0) (fun s _ => ?_), fb_sm_z]
      unfold cg
      rw [show bt (near K n u) k = false by simpa using e]
      simp
  · rw [if_neg (fun z => q z.1), fb_sm_cong (g := fun _ => 0) (fun s _ => ?_), fb_sm_z]
    rw [if_neg q]
theorem clG_one {K H : Nat → Int32} {n s u k : Nat} (hs : s < 8) : clG K H n ((1 : Int32) <<< (nI s &&& 31)) u k = if u < k then cg K H n s u k else 0 := by
  unfold clG
  by_cases q : u < k
  · rw [if_pos q]
    by_cases e : bt (near K n u) k = true
    · rw [if_pos ⟨q, e⟩]
      unfold pop
      have e2 : (bt ((H u &&& H k) &&& ((1 : Int32) <<< (nI s &&& 31)))) = fun i => if i = s then (bt (H u) s && bt (H k) s) else if i < 32 then false else bt ((H u &&& H k) &&& ((1 : Int32) <<< (nI s &&& 31))) i := by
        funext i
        by_cases ei : i = s
        · subst ei
          rw [if_pos rfl, b_and, b_and, bt_one (by omega) (by omega), decide_eq_true rfl, Bool.and_true]
        · rw [if_neg ei]
          by_cases el : i < 32
          · rw [if_pos el, b_and, bt_one (by omega) el, decide_eq_false ei, Bool.and_false]
          · rw [if_neg el]
      rw [e2]
      have := fb_ct_upd (fun i => if i < 32 then false else bt ((H u &&& H k) &&& ((1 : Int32) <<< (nI s &&& 31))) i) (bt (H u) s && bt (H k) s) (i := s) (n := 8) hs
      rw [fb_ct_zero (p := fun i => if i < 32 then false else bt ((H u &&& H k) &&& ((1 : Int32) <<< (nI s &&& 31))) i) (n := 8) |>.mpr (fun i hi => by simp; omega)] at this
      simp only [if_pos (show s < 32 by omega)] at this
      unfold cg
      rw [e, Bool.true_and]
      simpa using this
    · rw [if_neg (fun z => e z.2)]
      unfold cg
      rw [show bt (near K n u) k = false by simpa using e]
      simp
  · rw [if_neg (fun z => q z.1), if_neg q]
theorem clash_one {K H : Nat → Int32} {n s : Nat} (hK : wfL K n) (h8 : n ≤ 8) (hs : s < 8) : clN K H n ((1 : Int32) <<< (nI s &&& 31)) = cdN K H n s / 2 := by
  rw [cdN_half hK h8]
  unfold clN
  exact fb_sm_cong (fun u _ => fb_sm_cong (fun k _ => clG_one hs))
theorem clash_all {K H : Nat → Int32} {n m : Nat} (hK : wfL K n) (h8 : n ≤ 8) (hm : m ≤ 8) : clN K H n (((1 : Int32) <<< (nI m &&& 31)) - 1) = fb_sm (fun s => cdN K H n s / 2) m := by
  rw [fb_sm_cong (g := fun s => fb_sm (fun u => fb_sm (fun k => if u < k then cg K H n s u k else 0) n) n) (fun s _ => cdN_half hK h8)]
  rw [fb_sm_swap (fun s u => fb_sm (fun k => if u < k then cg K H n s u k else 0) n)]
  unfold clN
  refine fb_sm_cong (fun u _ => ?_)
  rw [fb_sm_swap (fun s k => if u < k then cg K H n s u k else 0)]
  exact fb_sm_cong (fun k _ => clG_mask hm)
