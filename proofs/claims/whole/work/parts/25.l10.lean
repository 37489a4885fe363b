/-! THE LAW'S INSTRUCTIONS, CHECKED -/
theorem lk_36 : ck_seg 13 false code pP_SnowCantonLaw_law pL_36 (pL_37.take 1) = true := by decide +kernel
theorem lk_37 : ck_seg 13 false code pP_SnowCantonLaw_law pL_37 (pL_38.take 1) = true := by decide +kernel
theorem lk_38 : ck_seg 13 false code pP_SnowCantonLaw_law pL_38 (pL_39.take 1) = true := by decide +kernel
theorem lk_39 : ck_seg 13 false code pP_SnowCantonLaw_law pL_39 (pL_40.take 1) = true := by decide +kernel
