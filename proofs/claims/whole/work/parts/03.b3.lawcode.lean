set_option maxRecDepth 100000 in
theorem bckL_3 : bIL_3.all (bdk code) = true := by decide +kernel
