set_option maxRecDepth 100000 in
theorem bckL_1 : bIL_1.all (bdk code) = true := by decide +kernel
