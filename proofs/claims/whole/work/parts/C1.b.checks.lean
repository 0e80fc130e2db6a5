/-! THE CHECKS OF THE LAW, by the kernel, 1 -/
theorem ckg_240 : ckSeg 248 240 60 = true := by decide +kernel
theorem ckg_300 : ckSeg 248 300 60 = true := by decide +kernel
theorem ckg_360 : ckSeg 248 360 60 = true := by decide +kernel
theorem ckg_420 : ckSeg 248 420 60 = true := by decide +kernel
