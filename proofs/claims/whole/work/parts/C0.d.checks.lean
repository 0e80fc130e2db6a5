/-! THE CHECKS, by the kernel, 3 -/
theorem ckb_192 : ckB 192 16 = true := by decide +kernel
theorem ckb_208 : ckB 208 16 = true := by decide +kernel
theorem ckb_224 : ckB 224 16 = true := by decide +kernel
theorem ckb_240 : ckB 240 8 = true := by decide +kernel
