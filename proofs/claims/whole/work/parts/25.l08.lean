/-! THE LAW'S INSTRUCTIONS, CHECKED -/
theorem lk_28 : ck_seg 13 false code pP_SnowCantonLaw_law pL_28 (pL_29.take 1) = true := by decide +kernel
theorem lk_29 : ck_seg 13 false code pP_SnowCantonLaw_law pL_29 (pL_30.take 1) = true := by decide +kernel
theorem lk_30 : ck_seg 13 false code pP_SnowCantonLaw_law pL_30 (pL_31.take 1) = true := by decide +kernel
theorem lk_31 : ck_seg 13 false code pP_SnowCantonLaw_law pL_31 (pL_32.take 1) = true := by decide +kernel
