/-! THE CHECKS OF THE LAW, by the kernel, 0 -/
theorem ckg_0 : ckSeg 248 0 60 = true := by decide +kernel
theorem ckg_60 : ckSeg 248 60 60 = true := by decide +kernel
theorem ckg_120 : ckSeg 248 120 60 = true := by decide +kernel
theorem ckg_180 : ckSeg 248 180 60 = true := by decide +kernel
