/-! THE TABLES ARE RIGHT: the law, on -/
theorem okL_9 : am_okP m_L_law 9 = true := by decide +kernel
theorem okL_10 : am_okP m_L_law 10 = true := by decide +kernel
theorem okk_L_law : am_okk m_L_law := am_okk_ofP (n := 11) (by decide +kernel) (fun c hc => by
  have h : c = 0 ∨ c = 1 ∨ c = 2 ∨ c = 3 ∨ c = 4 ∨ c = 5 ∨ c = 6 ∨ c = 7 ∨ c = 8 ∨ c = 9 ∨ c = 10 := by omega
  rcases h with rfl | rfl | rfl | rfl | rfl | rfl | rfl | rfl | rfl | rfl | rfl
  · exact okL_0
  · exact okL_1
  · exact okL_2
  · exact okL_3
  · exact okL_4
  · exact okL_5
  · exact okL_6
  · exact okL_7
  · exact okL_8
  · exact okL_9
  · exact okL_10)
