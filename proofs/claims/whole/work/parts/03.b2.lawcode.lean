set_option maxRecDepth 100000 in
theorem bckL_2 : bIL_2.all (bdk code) = true := by decide +kernel
