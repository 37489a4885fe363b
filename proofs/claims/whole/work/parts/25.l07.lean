/-! THE LAW'S INSTRUCTIONS, CHECKED -/
theorem lk_24 : ck_seg 13 false code pP_SnowCantonLaw_law pL_24 (pL_25.take 1) = true := by decide +kernel
theorem lk_25 : ck_seg 13 false code pP_SnowCantonLaw_law pL_25 (pL_26.take 1) = true := by decide +kernel
theorem lk_26 : ck_seg 13 false code pP_SnowCantonLaw_law pL_26 (pL_27.take 1) = true := by decide +kernel
theorem lk_27 : ck_seg 13 false code pP_SnowCantonLaw_law pL_27 (pL_28.take 1) = true := by decide +kernel
