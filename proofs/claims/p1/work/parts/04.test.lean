theorem zt_a : zok ([], [], [(0, 0), (0, 0), (0, 0), (0, 0)]) = true := by decide +kernel
theorem zt_b : zok ([], [], [(0, 40), (0, 1), (0, 1), (0, 1), (0, 0)]) = true := by decide +kernel
