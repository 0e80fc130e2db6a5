/-! THE CHECKS, by the kernel -/
noncomputable def ckB (a n : Nat) : Bool := (List.range n).all (fun k => ckM (a + k))
theorem ckb_0 : ckB 0 20 = true := by decide +kernel
theorem ckb_20 : ckB 20 20 = true := by decide +kernel
theorem ckb_40 : ckB 40 20 = true := by decide +kernel
theorem ckb_60 : ckB 60 20 = true := by decide +kernel
theorem ckb_80 : ckB 80 20 = true := by decide +kernel
theorem ckb_100 : ckB 100 20 = true := by decide +kernel
