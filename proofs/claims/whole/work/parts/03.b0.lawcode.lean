set_option maxRecDepth 100000 in
theorem bckL_0 : bIL_0.all (bdk code) = true := by decide +kernel
