/-! THE LAW'S INSTRUCTIONS, CHECKED -/
theorem lk_0 : ck_seg 13 false code pP_SnowCantonLaw_law pL_0 (pL_1.take 1) = true := by decide +kernel
theorem lk_1 : ck_seg 13 false code pP_SnowCantonLaw_law pL_1 (pL_2.take 1) = true := by decide +kernel
theorem lk_2 : ck_seg 13 false code pP_SnowCantonLaw_law pL_2 (pL_3.take 1) = true := by decide +kernel
theorem lk_3 : ck_seg 13 false code pP_SnowCantonLaw_law pL_3 (pL_4.take 1) = true := by decide +kernel
