/-! THE CHECKS, by the kernel, 1 -/
theorem ckb_64 : ckB 64 16 = true := by decide +kernel
theorem ckb_80 : ckB 80 16 = true := by decide +kernel
theorem ckb_96 : ckB 96 16 = true := by decide +kernel
theorem ckb_112 : ckB 112 16 = true := by decide +kernel
