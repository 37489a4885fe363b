/-! THE LAW'S INSTRUCTIONS, CHECKED -/
theorem lk_32 : ck_seg 13 false code pP_SnowCantonLaw_law pL_32 (pL_33.take 1) = true := by decide +kernel
theorem lk_33 : ck_seg 13 false code pP_SnowCantonLaw_law pL_33 (pL_34.take 1) = true := by decide +kernel
theorem lk_34 : ck_seg 13 false code pP_SnowCantonLaw_law pL_34 (pL_35.take 1) = true := by decide +kernel
theorem lk_35 : ck_seg 13 false code pP_SnowCantonLaw_law pL_35 (pL_36.take 1) = true := by decide +kernel
