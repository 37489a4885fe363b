/-! THE LAW'S INSTRUCTIONS, CHECKED -/
theorem lk_8 : ck_seg 13 false code pP_SnowCantonLaw_law pL_8 (pL_9.take 1) = true := by decide +kernel
theorem lk_9 : ck_seg 13 false code pP_SnowCantonLaw_law pL_9 (pL_10.take 1) = true := by decide +kernel
theorem lk_10 : ck_seg 13 false code pP_SnowCantonLaw_law pL_10 (pL_11.take 1) = true := by decide +kernel
theorem lk_11 : ck_seg 13 false code pP_SnowCantonLaw_law pL_11 (pL_12.take 1) = true := by decide +kernel
