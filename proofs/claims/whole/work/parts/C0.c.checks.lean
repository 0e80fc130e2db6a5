/-! THE CHECKS, by the kernel, 2 -/
theorem ckb_128 : ckB 128 16 = true := by decide +kernel
theorem ckb_144 : ckB 144 16 = true := by decide +kernel
theorem ckb_160 : ckB 160 16 = true := by decide +kernel
theorem ckb_176 : ckB 176 16 = true := by decide +kernel
