theorem tst_1 (f : Int → Int) (n i : Int) (h : ∀ k, 0 ≤ k → k < i → f k ≠ 5) (h2 : f i ≠ 5) (h3 : 0 ≤ i) : ∀ k, 0 ≤ k → k < i + 1 → f k ≠ 5 := by grind
theorem tst_2 (σ : jH) (a b i j v : Int) (h : a ≠ b) : ju σ a i v b j = σ b j := by grind [ju]
theorem tst_3 (x y : Int) (h : 0 ≤ x) (h2 : x < 100) (h3 : y = w32 (x + 5)) : y = x + 5 := by grind [w32]
theorem tst_4 (σ : jH) (x0 n : Int) (hx : 0 ≤ n) :  (n < 0 → n = 7) ∧ (0 ≤ n → (σ x0 1 < n → n ≠ σ x0 1) ∧ (n ≤ σ x0 1 → ju σ x0 1 n x0 1 = n)) := by grind [ju]
theorem tst_5 (x : Int) (h : 0 ≤ x) (h2 : x < 100) : w32 (x + 5) = x + 5 := by simp (disch := omega) only [w32_of]
