/-! THE LAW'S INSTRUCTIONS, CHECKED -/
theorem lk_4 : ck_seg 13 false code pP_SnowCantonLaw_law pL_4 (pL_5.take 1) = true := by decide +kernel
theorem lk_5 : ck_seg 13 false code pP_SnowCantonLaw_law pL_5 (pL_6.take 1) = true := by decide +kernel
theorem lk_6 : ck_seg 13 false code pP_SnowCantonLaw_law pL_6 (pL_7.take 1) = true := by decide +kernel
theorem lk_7 : ck_seg 13 false code pP_SnowCantonLaw_law pL_7 (pL_8.take 1) = true := by decide +kernel
