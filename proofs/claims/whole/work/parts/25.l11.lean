/-! THE LAW'S INSTRUCTIONS, CHECKED -/
theorem lk_40 : ck_seg 13 false code pP_SnowCantonLaw_law pL_40 [] = true := by decide +kernel
