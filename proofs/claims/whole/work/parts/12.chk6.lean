/-! THE TABLES ARE RIGHT: the law, on -/
theorem okL_6 : am_okP m_L_law 6 = true := by decide +kernel
theorem okL_7 : am_okP m_L_law 7 = true := by decide +kernel
theorem okL_8 : am_okP m_L_law 8 = true := by decide +kernel
