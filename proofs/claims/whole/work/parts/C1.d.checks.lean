/-! THE CHECKS OF THE LAW, by the kernel, 3 -/
theorem ckg_720 : ckSeg 248 720 60 = true := by decide +kernel
theorem ckg_780 : ckSeg 248 780 60 = true := by decide +kernel
theorem ckg_840 : ckSeg 248 840 60 = true := by decide +kernel
theorem ckg_900 : ckSeg 248 900 16 = true := by decide +kernel
