/-! THE START, THE CLAIM -/
theorem lw_str {s : State} {b : Nat} (hgv : (Jvm.Cond.and given_1 narrow_1).before #[Value.ref b] s = true) {A : Nat → Prop} (hA : ∀ a : Nat, a < s.heap.size → ¬ A a) : ∃ adK adV : Nat → Nat, vk_S 4 am_sls am_sbs adK adV A s s.heap ∧ ∀ i : Nat, i < 4 → (Term.string RX3 (am_si i)).eval #[Value.ref b] s none [] s = some (.ref (adK i)) := by
  have hs := flat_of_before _ hgv
  refine vk_Sof (tm := fun i => Term.string RX3 (am_si i)) (by decide +kernel) (fun i hi => ?_) (fun i hi => ?_) (fun i hi => ?_) (fun i hi => ?_) (fun i hi j hj => ?_) (fun i j hi hj hij => ?_) hA
  · have : i = 0 ∨ i = 1 ∨ i = 2 ∨ i = 3 := by omega
    rcases this with rfl | rfl | rfl | rfl <;> exact hs _ (by decide +kernel)
  · have : i = 0 ∨ i = 1 ∨ i = 2 ∨ i = 3 := by omega
    rcases this with rfl | rfl | rfl | rfl <;> exact hs _ (by decide +kernel)
  · have : i = 0 ∨ i = 1 ∨ i = 2 ∨ i = 3 := by omega
    rcases this with rfl | rfl | rfl | rfl <;> exact hs _ (by decide +kernel)
  · have : i = 0 ∨ i = 1 ∨ i = 2 ∨ i = 3 := by omega
    rcases this with rfl | rfl | rfl | rfl <;> exact hs _ (by decide +kernel)
  · have : i = 0 ∨ i = 1 ∨ i = 2 ∨ i = 3 := by omega
    rcases this with rfl | rfl | rfl | rfl
    · have hj : j < 4 := hj
      have : j = 0 ∨ j = 1 ∨ j = 2 ∨ j = 3 := by omega
      rcases this with rfl | rfl | rfl | rfl <;> exact hs _ (by decide +kernel)
    · have hj : j < 4 := hj
      have : j = 0 ∨ j = 1 ∨ j = 2 ∨ j = 3 := by omega
      rcases this with rfl | rfl | rfl | rfl <;> exact hs _ (by decide +kernel)
    · have hj : j < 4 := hj
      have : j = 0 ∨ j = 1 ∨ j = 2 ∨ j = 3 := by omega
      rcases this with rfl | rfl | rfl | rfl <;> exact hs _ (by decide +kernel)
    · have hj : j < 5 := hj
      have : j = 0 ∨ j = 1 ∨ j = 2 ∨ j = 3 ∨ j = 4 := by omega
      rcases this with rfl | rfl | rfl | rfl | rfl <;> exact hs _ (by decide +kernel)
  · have h1 : i = 0 ∨ i = 1 ∨ i = 2 ∨ i = 3 := by omega
    have h2 : j = 0 ∨ j = 1 ∨ j = 2 ∨ j = 3 := by omega
    rcases h1 with rfl | rfl | rfl | rfl <;> rcases h2 with rfl | rfl | rfl | rfl <;> first | exact absurd rfl hij | exact Or.inl (hs _ (by decide +kernel)) | exact Or.inr (hs _ (by decide +kernel))
theorem whole_start {p : Program} {e : Env} {s : State} {m : MethodId} {below : List Frame} {meth : Method} {c : Code} (l : Launch) (hflags : l.flags = flags0) {b L : Nat} {xs : Nat → Int32} (hL : L ≤ 3072) (C0 : lw_At p s m meth c b L xs) : W p l e room_1 s m #[Value.ref b] below meth c s.heap [] 0 0 (lw_Z below #[Value.ref b] s) (entryFrame m ([Value.ref b] : List Value).toArray 4) := by
  obtain ⟨hx, hb, hr, hml, hown, hts, hX, hbl, hlocks, hgv⟩ := id C0
  have hs := flat_of_before _ hgv
  have hA : ∀ a : Nat, a < s.heap.size → ¬ (fun q : Nat => s.heap.size ≤ q) a := fun a h => by show ¬ s.heap.size ≤ a; omega
  obtain ⟨dC, dI, hKc⟩ := lw_known hts
  obtain ⟨ty, hty⟩ := lw_ty hts
  obtain ⟨adK, adV, hvS, hvR⟩ := lw_str hgv (A := fun q : Nat => s.heap.size ≤ q) hA
  have hZ1 : va_Z "java/lang/String" "COMPACT_STRINGS" "Z" (.int 1) (fun q : Nat => s.heap.size ≤ q) s s.heap := va_Zof (args := #[Value.ref b]) (hts _ (by decide +kernel)) (hts _ (by decide +kernel)) (va_eqt (hs (Cond.eq (.static "java/lang/String" "COMPACT_STRINGS" "Z") (.int 1)) (by decide +kernel))) hA
  have hZ2 : va_Zq "jdk/internal/util/Preconditions" "SIOOBE_FORMATTER" "Ljava/util/function/BiFunction;" (fun q : Nat => s.heap.size ≤ q) s s.heap := va_Zqof (args := #[Value.ref b]) (hts _ (by decide +kernel)) (hts _ (by decide +kernel)) (hs (Cond.isRef (.static "jdk/internal/util/Preconditions" "SIOOBE_FORMATTER" "Ljava/util/function/BiFunction;")) (by decide +kernel)) hA
  obtain ⟨fv, hfv, hfc⟩ : ∃ fv : Value, va_Z "jdk/internal/util/Preconditions" "SIOOBE_FORMATTER" "Ljava/util/function/BiFunction;" fv (fun q : Nat => s.heap.size ≤ q) s s.heap ∧ fv.category = 1 := by
    rcases hZ2 with z | ⟨t, z⟩
    · exact ⟨_, z, rfl⟩
    · exact ⟨_, z, rfl⟩
  obtain ⟨P, S, hw⟩ := law_wa (L := L) (xs := xs) (by omega)
  let g : am_G := ((dC, dI), ty, s.heap.size, fun k => if k = 0 then b else if k < 11 then adK (k - 1) else adV (k - 11), fv)
  have hg1 : (fun i => g.2.2.2.1 (1 + i)) = fun i => if i < 10 then adK i else adV (1 + i - 11) := by
    funext i
    show (if 1 + i = 0 then b else if 1 + i < 11 then adK (1 + i - 1) else adV (1 + i - 11)) = _
    rw [if_neg (by omega)]
    by_cases q : i < 10
    · rw [if_pos (by omega), if_pos q, show 1 + i - 1 = i by omega]
    · rw [if_neg (by omega), if_neg q]
  have hgK : ∀ i, i < 4 → g.2.2.2.1 (1 + i) = adK i := fun i hi => by
    show (if 1 + i = 0 then b else if 1 + i < 11 then adK (1 + i - 1) else adV (1 + i - 11)) = _
    rw [if_neg (by omega), if_pos (by omega), show 1 + i - 1 = i by omega]
  have hgV : ∀ i, g.2.2.2.1 (11 + i) = adV i := fun i => by
    show (if 11 + i = 0 then b else if 11 + i < 11 then adK (11 + i - 1) else adV (11 + i - 11)) = _
    rw [if_neg (by omega), if_neg (by omega), show 11 + i - 11 = i by omega]
  have hXX : am_X L xs g s := by
    refine ⟨⟨hKc, fun k q hq => ?_⟩, fun w hw => va_Nw.of ?_ (hts w (am_nw_in w hw)), ⟨va_AO.of (hts _ (by decide +kernel)), va_AO.of (hts _ (by decide +kernel))⟩, ⟨hX, hbl⟩, fun i hi => ?_, ⟨fun i hi => ?_, fun i j hi hj e => ?_⟩, hZ1, hfv, Nat.le_refl _, hfc⟩
    · match k, hq with
      | 0, hq => cases hq; exact hty _ (Or.inl rfl)
      | 1, hq => cases hq; exact hty _ (Or.inr (Or.inl rfl))
      | 2, hq => cases hq; exact hty _ (Or.inr (Or.inr (Or.inl rfl)))
      | 3, hq => cases hq; exact hty _ (Or.inr (Or.inr (Or.inr rfl)))
      | k + 4, hq => simp [am_tys] at hq
    · obtain ⟨_, _, _, _, rfl⟩ := am_nw_form w hw
      rfl
    · rw [hgK i hi]
      refine vk_R.of (A := #[Value.ref b]) ?_ (hvR i hi)
      have : i = 0 ∨ i = 1 ∨ i = 2 ∨ i = 3 := by omega
      rcases this with rfl | rfl | rfl | rfl <;> exact hts _ (by decide +kernel)
    · have := hvS.1 i hi
      dsimp only
      rw [hgK i hi, hgV i]
      exact this
    · dsimp only at e
      rw [hgK i hi, hgK j hj] at e
      exact hvS.2 i j hi hj e
  have hl := lv_entry ([.ref b]) (n := 4) (Nat.le_of_ble_eq_true rfl)
  rw [lg_entry_eq]
  generalize (lg_sl ([.ref b]) ++ List.replicate (4 - (lg_sl ([.ref b])).length) Slot.unset).toArray = lr at hl ⊢
  have hS : va_S (am_A g) s.heap s.heap [] := va_S.rf
  refine hw l g p e room_1 s m #[Value.ref b] below meth c (lw_Z below #[Value.ref b] s) ⟨hx, hb.trans lw_b.symm, hml.trans lw_ml.symm, by rw [lw_y]; exact hown, fun w hw => hts w (am_gt_lw hw), hXX, ⟨rfl, by rw [mc_L.1]; show 0 + 109 ≤ 1000000; omega⟩, lw_rm, fun z => absurd z lw_kd, fun H locs lr pc hW hS => ⟨fun x hx1 hd hf => ?_, fun z => by cases z⟩⟩ s.heap [] lr ⟨⟨rfl, by show 0 ≤ 1000000; omega⟩, fun k q h => by simp [am_ws] at h⟩ hS ⟨?_, hfc⟩ ⟨⟨Nat.le_refl _, by show 0 ≤ 0 + _; omega⟩, Nat.le_refl _, by show 0 ≤ 0 + _; omega⟩
  · cases hx1
    refine va_forget (fun q hq => hS.2.2 q hq) ?_
    refine W.widen (k := 600000) (n := 7302250) (by rw [HP_1]; show 109 - 0 ≤ 600000; omega) (by rw [HP_2]; show 1605 - 0 ≤ 7302250; omega) ?_
    rw [lw_b] at hd
    exact lw_ret hx hb hr hlocks hd
  · rw [lw_ml]
    exact hl
