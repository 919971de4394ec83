/-! The law: a piece of its table -/
set_option maxRecDepth 20000 in
theorem s_law_1184 : okS m_law k_law 1184 64 = true := by decide +kernel
