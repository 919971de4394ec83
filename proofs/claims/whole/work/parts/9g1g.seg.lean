/-! The law: a piece of its table -/
set_option maxRecDepth 20000 in
theorem s_law_720 : okS m_law k_law 720 80 = true := by decide +kernel
