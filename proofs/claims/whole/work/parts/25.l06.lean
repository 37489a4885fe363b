/-! THE LAW'S INSTRUCTIONS, CHECKED -/
theorem lk_20 : ck_seg 13 false code pP_SnowCantonLaw_law pL_20 (pL_21.take 1) = true := by decide +kernel
theorem lk_21 : ck_seg 13 false code pP_SnowCantonLaw_law pL_21 (pL_22.take 1) = true := by decide +kernel
theorem lk_22 : ck_seg 13 false code pP_SnowCantonLaw_law pL_22 (pL_23.take 1) = true := by decide +kernel
theorem lk_23 : ck_seg 13 false code pP_SnowCantonLaw_law pL_23 (pL_24.take 1) = true := by decide +kernel
