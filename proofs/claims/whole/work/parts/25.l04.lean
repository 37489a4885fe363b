/-! THE LAW'S INSTRUCTIONS, CHECKED -/
theorem lk_12 : ck_seg 13 false code pP_SnowCantonLaw_law pL_12 (pL_13.take 1) = true := by decide +kernel
theorem lk_13 : ck_seg 13 false code pP_SnowCantonLaw_law pL_13 (pL_14.take 1) = true := by decide +kernel
theorem lk_14 : ck_seg 13 false code pP_SnowCantonLaw_law pL_14 (pL_15.take 1) = true := by decide +kernel
theorem lk_15 : ck_seg 13 false code pP_SnowCantonLaw_law pL_15 (pL_16.take 1) = true := by decide +kernel
