/-! THE CHECKS OF THE LAW, by the kernel, 2 -/
theorem ckg_480 : ckSeg 248 480 60 = true := by decide +kernel
theorem ckg_540 : ckSeg 248 540 60 = true := by decide +kernel
theorem ckg_600 : ckSeg 248 600 60 = true := by decide +kernel
theorem ckg_660 : ckSeg 248 660 60 = true := by decide +kernel
