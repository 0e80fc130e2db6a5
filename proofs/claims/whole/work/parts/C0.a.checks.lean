/-! THE CHECKS, by the kernel, 0 -/
noncomputable def ckB (a n : Nat) : Bool := (List.range n).all (fun k => ckM (a + k))
noncomputable def ckSeg (mi a n : Nat) : Bool := (List.range n).all (fun k => match (mt mi).1[a + k]? with
  | some e => ckE mi e ((hnt.getD mi []).getD (a + k) [])
  | none => true)
theorem ckb_0 : ckB 0 16 = true := by decide +kernel
theorem ckb_16 : ckB 16 16 = true := by decide +kernel
theorem ckb_32 : ckB 32 16 = true := by decide +kernel
theorem ckb_48 : ckB 48 16 = true := by decide +kernel
