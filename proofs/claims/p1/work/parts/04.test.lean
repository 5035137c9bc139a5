theorem zt_a : zok (0, [0, 0, 0, 0]) = true := by decide +kernel
theorem zt_b : zok (0, [640, 16, 16, 16, 0]) = true := by decide +kernel
