/-! The law: a piece of its table -/
set_option maxRecDepth 20000 in
theorem s_law_160 : okS m_law k_law 160 160 = true := by decide +kernel
