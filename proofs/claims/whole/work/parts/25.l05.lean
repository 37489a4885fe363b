/-! THE LAW'S INSTRUCTIONS, CHECKED -/
theorem lk_16 : ck_seg 13 false code pP_SnowCantonLaw_law pL_16 (pL_17.take 1) = true := by decide +kernel
theorem lk_17 : ck_seg 13 false code pP_SnowCantonLaw_law pL_17 (pL_18.take 1) = true := by decide +kernel
theorem lk_18 : ck_seg 13 false code pP_SnowCantonLaw_law pL_18 (pL_19.take 1) = true := by decide +kernel
theorem lk_19 : ck_seg 13 false code pP_SnowCantonLaw_law pL_19 (pL_20.take 1) = true := by decide +kernel
