set_option maxRecDepth 100000 in
theorem bck_0 : bck bT_0 bM_0 = true := by decide +kernel
set_option maxRecDepth 100000 in
theorem bck_1 : bck bT_1 bM_1 = true := by decide +kernel
set_option maxRecDepth 100000 in
theorem bck_2 : bck bT_2 bM_2 = true := by decide +kernel
set_option maxRecDepth 100000 in
theorem bck_3 : bck bT_3 bM_3 = true := by decide +kernel
set_option maxRecDepth 100000 in
theorem bck_4 : bck bT_4 bM_4 = true := by decide +kernel
set_option maxRecDepth 100000 in
theorem bck_5 : bck bT_5 bM_5 = true := by decide +kernel
set_option maxRecDepth 100000 in
theorem bck_6 : bck bT_6 bM_6 = true := by decide +kernel
set_option maxRecDepth 100000 in
theorem bck_7 : bck bT_7 bM_7 = true := by decide +kernel
set_option maxRecDepth 100000 in
theorem bck_8 : bck bT_8 bM_8 = true := by decide +kernel
set_option maxRecDepth 100000 in
theorem bck_9 : bck bT_9 bM_9 = true := by decide +kernel
set_option maxRecDepth 100000 in
theorem bck_10 : bck bT_10 bM_10 = true := by decide +kernel
set_option maxRecDepth 100000 in
theorem bck_11 : bck bT_11 bM_11 = true := by decide +kernel
set_option maxRecDepth 100000 in
theorem bck_12 : bck bT_12 bM_12 = true := by decide +kernel
set_option maxRecDepth 100000 in
theorem bck_13 : bck bT_13 bM_13 = true := by decide +kernel
