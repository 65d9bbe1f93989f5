/-! THE TABLES ARE RIGHT: the law, on -/
theorem okL_3 : am_okP m_L_law 3 = true := by decide +kernel
theorem okL_4 : am_okP m_L_law 4 = true := by decide +kernel
theorem okL_5 : am_okP m_L_law 5 = true := by decide +kernel
