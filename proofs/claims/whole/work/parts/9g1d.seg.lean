/-! The law: a piece of its table -/
set_option maxRecDepth 20000 in
theorem s_law_480 : okS m_law k_law 480 80 = true := by decide +kernel
