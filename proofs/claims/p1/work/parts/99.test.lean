section
theorem zt_0 : zok (0, [0, 0, 0, 0, 0]) = true := by decide +kernel
theorem zt_1 : zok (0, [16, 0, 0, 0, 0]) = true := by decide +kernel
theorem zt_2 : zok (0, [32, 0, 0, 0, 0]) = true := by decide +kernel
theorem zt_4 : zok (0, [64, 0, 1840, 0, 0]) = true := by decide +kernel
theorem zt_7 : zok (0, [112, 720, 0, 0, 0]) = true := by decide +kernel
theorem zt_11 : zok (0, [176, 0, 0, 784, 0]) = true := by decide +kernel
theorem zt_14 : zok (0, [224, 528, 0, 0, 0]) = true := by decide +kernel
theorem zt_17 : zok (0, [272, 0, 160, 0, 0]) = true := by decide +kernel
theorem zt_20 : zok (0, [320, 0, 0, 0, 0]) = true := by decide +kernel
theorem zt_22 : zok (0, [352, 0, 160, 0, 0]) = true := by decide +kernel
theorem zt_23 : zok (0, [368, 0, 0, 0, 0]) = true := by decide +kernel
theorem zt_24 : zok (0, [384, 0, 0, 0, 0]) = true := by decide +kernel
theorem zt_33 : zok (0, [528, 0, 0, 0, 0]) = true := by decide +kernel
theorem zt_34 : zok (0, [544, 0, 0, 0, 0]) = true := by decide +kernel
theorem zt_37 : zok (0, [592, 0, 0, 0, 0]) = true := by decide +kernel
theorem zt_38 : zok (0, [608, 0, 0, 0, 0]) = true := by decide +kernel
theorem zt_39 : zok (0, [624, 0, 0, 0, 0]) = true := by decide +kernel
theorem zt_40 : zok (0, [640, 0, 0, 0, 0]) = true := by decide +kernel
theorem zt_9 : zok (0, [144, 0, 0, 0, 0]) = true := by decide +kernel
theorem zt_8 : zok (0, [128, 720, 0, 0, 0]) = true := by decide +kernel
theorem zt_19 : zok (0, [304, 0, 0, 0, 0]) = true := by decide +kernel
theorem zt_36 : zok (0, [576, 0, 0, 0, 0]) = true := by decide +kernel
end
