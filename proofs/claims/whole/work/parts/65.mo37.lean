/-! THE REFERENCE, 36: after -/
section
variable {k fed pl le fi : Int32} {U : US}
theorem sp_MO_after (d : Nat) {P : US → Prop} (hP : GoodE P) {h : AH} {G : Nat → Int32} {z : ZT} (hm : mCel h k fed pl le fi G z) (hU : GU U G) (hPU : P U) (hri : RowsIn U) {W : Nat → Int32} (h79 : h.2 79 = ints 106 W) (hI : caI z) (hrw : rows4 h) (v : Int32) : ∃ h', (∃ G' z' W', mCel h' k fed pl le fi G' z' ∧ GU U G' ∧ caI z' ∧ frm3 h h' ∧ rows4 h' ∧ h'.2 79 = ints 106 W') ∧ Cl (d + 9) 234 [.ref 76, .int v] h (some (.int (afterR U v))) h' := by
  have kC9 := co_MO_after
  have ho := hm.1
  have hg := hm.2.1
  have hr := (hP.1 U hPU).1
  refine Cl_ex (f := fun _ => some (.int (afterR U v))) (g := fun h' => h') kC9 rfl rfl ?_
  unfold afterR
  repeat (refine R_s kC9 rfl rfl ?_)
  refine R_cs kC9 rfl rfl rfl rfl (sp_MO_isIn (d + 8) _ _ _ h) ?_
  rw [in_dec (x := 0) (y := 2) (by decide) (by decide)]
  refine ZB_ne kC9 rfl (fun q => ?_) (fun q => ?_)
  · have hv := of_decide_eq_true q
    rw [if_pos hv]
    obtain ⟨W', hW', hcl⟩ := sp_MO_copies (h := h) (d + 8) (a := 77) (b := 79) (by decide) (by decide) hg h79
    have hWU := hU.congr hr hW'
    repeat (refine R_s kC9 rfl rfl ?_)
    refine R_get kC9 rfl (ho) rfl ?_
    repeat (refine R_s kC9 rfl rfl ?_)
    refine R_get kC9 rfl (ho) rfl ?_
    refine R_cs kC9 rfl rfl rfl rfl hcl ?_
    iterate 2 (refine R_s kC9 rfl rfl ?_)
    refine lp_after (d + 4) _ hP v (ev := U.2.2.2.2.2.1) hr.2.2.1 hri.2.2.1 U.2.2.2.2.2.1.length 0 (upH h 79 (ints 106 W')) U G z (by omega) hm hU hPU rfl (fun G1 hG1 hP1 => ?_)
    rw [List.drop_zero] at hG1 hP1
    generalize hV : afU U U.2.2.2.2.2.1 = V at hG1 hP1
    obtain ⟨hrV, hFV, hbV, hfV⟩ := hP.1 V hP1
    have hm1 : mCel (upH (upH h 79 (ints 106 W')) 77 (ints 106 G1)) k fed pl le fi G1 z := ⟨hm.1, rfl, hm.2.2⟩
    have fr1 : frm3 h (upH (upH h 79 (ints 106 W')) 77 (ints 106 G1)) := (up79_frm h _).trans (up77_frm _ _)
    have ho1 := hm1.1
    have fin : ∀ (r : Int32) (h2 : AH) (z2 : ZT), mCel h2 k fed pl le fi G1 z2 → caI z2 → frm2 (upH (upH h 79 (ints 106 W')) 77 (ints 106 G1)) h2 → rows4 h2 → R (d + 9) 234 54 [some (.ref 76), some (.int v), some (.int (nI U.2.2.2.2.2.1.length))] [.int r] h2 (fun r2 h2 => ∃ h', (∃ G' z' W', mCel h' k fed pl le fi G' z' ∧ GU U G' ∧ caI z' ∧ frm3 h h' ∧ rows4 h' ∧ h'.2 79 = ints 106 W') ∧ r2 = some (.int r) ∧ h2 = h') := by
      intro r h2 z2 a1 a2 a3 a4
      have ho2 := a1.1
      have h792 : h2.2 79 = ints 106 W' := (a3.2 79 (by omega)).trans rfl
      obtain ⟨G3, hG3, hcl3⟩ := sp_MO_copies (h := h2) (d + 8) (a := 79) (b := 77) (by decide) (by decide) h792 a1.2.1
      repeat (refine R_s kC9 rfl rfl ?_)
      refine R_get kC9 rfl (ho2) rfl ?_
      repeat (refine R_s kC9 rfl rfl ?_)
      refine R_get kC9 rfl (ho2) rfl ?_
      refine R_cs kC9 rfl rfl rfl rfl hcl3 ?_
      repeat (refine R_s kC9 rfl rfl ?_)
      exact R_ri kC9 rfl ⟨upH h2 77 (ints 106 G3), ⟨G3, z2, W', ⟨a1.1, rfl, a1.2.2⟩, hWU.congr hr hG3, a2, (fr1.trans a3.to3).trans (up77_frm h2 _), a4, h792⟩, rfl, rfl⟩
    repeat (refine R_s kC9 rfl rfl ?_)
    refine Zr_ne kC9 rfl (fun q0 => ?_) (fun q0 => ?_)
    · rw [if_neg q0]
      repeat (refine R_s kC9 rfl rfl ?_)
      refine Rr_ne kC9 rfl (fun q1 => ?_) (fun q1 => ?_)
      · rw [if_neg (show ¬ v = 1 from q1)]
        obtain ⟨z2, h2, b1, b2, b3, b4, hcl2⟩ := sp_MO_farthest d hm1 hFV.2.1 hFV.1 hG1.1 hG1.2.1 hbV hI hfV hrw
        repeat (refine R_s kC9 rfl rfl ?_)
        refine R_cv kC9 rfl rfl rfl rfl ho1 (by decide) hcl2 ?_
        exact fin _ h2 z2 b2 (b1.i hFV.2.1) b3 b4
      · rw [if_pos (show v = 1 from q1)]
        obtain ⟨z2, h2, b1, b2, b3, hcl2⟩ := sp_MO_manyCorners d hm1 hFV.2.1 hFV.1 hG1.1 hG1.2.1 hbV hI
        repeat (refine R_s kC9 rfl rfl ?_)
        refine R_cv kC9 rfl rfl rfl rfl ho1 (by decide) hcl2 ?_
        refine R_g kC9 rfl ?_
        exact fin _ h2 z2 b2 (b1.i hFV.2.1) b3.to2 (rows4.frm (h := upH (upH h 79 (ints 106 W')) 77 (ints 106 G1)) hrw b3)
    · rw [if_pos q0]
      repeat (refine R_s kC9 rfl rfl ?_)
      refine R_cv kC9 rfl rfl rfl rfl ho1 (by decide) (sp_MO_sets (d + 8) ho1 hm1.2.1 hG1.2.1 hFV.b0) ?_
      refine R_g kC9 rfl ?_
      exact fin _ _ z hm1 hI frm2.rfl hrw
  · rw [if_neg (of_decide_eq_false q)]
    repeat (refine R_s kC9 rfl rfl ?_)
    exact R_ri kC9 rfl ⟨h, ⟨G, z, W, hm, hU, hI, frm3.rfl, hrw, h79⟩, rfl, rfl⟩
end
