/-! MATHEMATICS 25: deals of six -/
theorem full_c6 : fulD 63 6 64 = true := by decide +kernel
theorem full_e6 : fulD 63 6 63 = true := by decide +kernel
