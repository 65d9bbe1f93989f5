/-! THE LAW -/
section LW
variable {L : Nat} {xs : Nat → Int32}
theorem mc_L : tm_mc m_L_law = 109 ∧ tm_ms m_L_law = 1605 := by decide +kernel
theorem mcs_X4 : tm_mcs m_X4_init = (97, 929) := by decide +kernel
theorem mcs_X5 : tm_mcs m_X5_init = (10, 649) := by decide +kernel
theorem law_wa (hL : L < 2 ^ 31) : ∃ P S, am_wa L xs m_L_law (0, 0, f0) (some 1) (HP P S) 0 [.ref 1000000, .null, .null, .null] [] (0, 0, f0) := by
  obtain ⟨P, S, hw⟩ := lw_loop (L := L) (xs := xs) hL L 0 P0 S0 (by omega) (by omega) INV_0
  refine ⟨P, S, ch_L_law_0 ?_⟩
  have c2 := ok_initD (L := L) (xs := xs) (h := CH (tl 3) (98, 936, gU 3)) (b := 98) (CH_1 _ _) (by omega)
  rw [CH_2, CH_gr] at c2
  have e1 : Prod.fst (CH (tl 3) (98, 936, gU 3)) = 98 := CH_1 _ _
  have al : ∀ {h : am_H} {n m : Nat} (x y : Nat), h.1 = x → h.2.1 = y → x + n ≤ 109 → y + m ≤ 1605 → am_Al m_L_law (0, 0, f0) h n m := by
    intro h n m x y hx hy h1 h2
    refine ⟨?_, ?_⟩
    · rw [mc_L.1, hx]; show x + n ≤ 0 + 109; omega
    · rw [mc_L.2, hy]; show y + m ≤ 0 + 1605; omega
  refine ⟨al 0 0 rfl rfl (by decide) (by decide), _, ⟨ok_initS2, al 1 7 rfl rfl (by rw [mcs_X4]; decide) (by rw [mcs_X4]; decide)⟩, ?_⟩
  rw [e1]
  refine ⟨al 98 936 (CH_1 _ _) (CH_2 _ _) (by decide) (by decide), _, ⟨c2, al 99 956 (by show (CH _ _).1 + 1 = _; rw [CH_1]) (by show (CH _ _).2.1 + 20 = _; rw [CH_2]) (by rw [mcs_X5]; decide) (by rw [mcs_X5]; decide)⟩, ?_⟩
  have e2 : ob sgD (CH (tl 3) (gr (98, 936, gU 3) (98 + 11) ((98, 936, gU 3) : am_H).2.1.succ.pred.succ.pred)) 98 (anD dS 3 2 2 1) = ob sgD (CH (tl 3) (gr (98, 936, gU 3) (98 + 11) 936)) 98 (anD dS 3 2 2 1) := rfl
  have e3 : ob sgD (CH (tl 3) (gr (98, 936, gU 3) (98 + 11) (936 + 669))) 98 (anD dS 3 2 2 1) = HP P0 S0 := start_HP
  have := hw (0, 0, f0)
  rw [← e3] at this
  exact this
end LW
