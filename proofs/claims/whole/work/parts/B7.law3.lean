/-! THE LAW, 3: its cases -/
set_option maxRecDepth 10000
def lxA (a b : Int32) : Int64 := (a.toInt64 <<< ((nI 32).toInt64 &&& 63)) ||| (b.toInt64 &&& 4294967295)
theorem lgc_self (a : Int64) : lg_cmp a a = 0 := by
  unfold lg_cmp
  simp
section
variable {c : Nat × Nat} {L : Nat} {xs : Nat → Int32} {h : AH} {i : Nat} {Q : Option Value → AH → Prop}
abbrev lwL (i : Nat) : ALs := [some (.ref 2), some (.ref 3), some (.ref 76), some (.int (nI i))]
theorem lw_points (hl : lwI c L xs h) (hL : L ≤ 3072) (hi : i + 6 ≤ L) (k : ∀ h', lwI c L xs h' → R 60 248 912 (lwL i) [] h' Q) : R 60 248 22 (lwL i) [] h Q := by
  have kC9 := co_LA_law
  obtain ⟨r, h1, h2, ⟨fs, a1⟩, a2, a3, ⟨fs', b1⟩, b2, b3, b4⟩ := bo_points hl (xs (i + 1))
  repeat (refine R_s kC9 rfl rfl ?_)
  refine R_ild kC9 rfl a2 (nI_add i 1) (by omega) (by omega) ?_
  refine R_cv kC9 rfl rfl rfl rfl a1 (by decide) a3 ?_
  repeat (refine R_s kC9 rfl rfl ?_)
  refine R_ild kC9 rfl b2 (nI_add i 1) (by omega) (by omega) ?_
  refine R_cv kC9 rfl rfl rfl rfl b1 (by decide) b3 ?_
  refine Rr_eq kC9 rfl (fun _ => ?_) (fun q => absurd rfl q)
  exact k h2 b4
theorem lw_make (hl : lwI c L xs h) (hL : L ≤ 3072) (hi : i + 6 ≤ L) (k : ∀ h', lwI c L xs h' → R 60 248 912 (lwL i) [] h' Q) : R 60 248 39 (lwL i) [] h Q := by
  have kC9 := co_LA_law
  obtain ⟨r, h1, h2, ⟨fs, a1⟩, a2, a3, ⟨fs', b1⟩, b2, b3, b4⟩ := bo_make hl (xs (i + 1))
  repeat (refine R_s kC9 rfl rfl ?_)
  refine R_ild kC9 rfl a2 (nI_add i 1) (by omega) (by omega) ?_
  refine R_cv kC9 rfl rfl rfl rfl a1 (by decide) a3 ?_
  repeat (refine R_s kC9 rfl rfl ?_)
  refine R_ild kC9 rfl b2 (nI_add i 1) (by omega) (by omega) ?_
  refine R_cv kC9 rfl rfl rfl rfl b1 (by decide) b3 ?_
  refine Rr_eq kC9 rfl (fun _ => ?_) (fun q => absurd rfl q)
  exact k h2 b4
theorem lw_comes (hl : lwI c L xs h) (hL : L ≤ 3072) (hi : i + 6 ≤ L) (k : ∀ h', lwI c L xs h' → R 60 248 912 (lwL i) [] h' Q) : R 60 248 56 (lwL i) [] h Q := by
  have kC9 := co_LA_law
  obtain ⟨r, h1, h2, ⟨fs, a1⟩, a2, a3, ⟨fs', b1⟩, b2, b3, b4⟩ := bo_comes hl (xs (i + 1))
  repeat (refine R_s kC9 rfl rfl ?_)
  refine R_ild kC9 rfl a2 (nI_add i 1) (by omega) (by omega) ?_
  refine R_cv kC9 rfl rfl rfl rfl a1 (by decide) a3 ?_
  repeat (refine R_s kC9 rfl rfl ?_)
  refine R_ild kC9 rfl b2 (nI_add i 1) (by omega) (by omega) ?_
  refine R_cv kC9 rfl rfl rfl rfl b1 (by decide) b3 ?_
  refine Rr_eq kC9 rfl (fun _ => ?_) (fun q => absurd rfl q)
  exact k h2 b4
theorem lw_goes (hl : lwI c L xs h) (hL : L ≤ 3072) (hi : i + 6 ≤ L) (k : ∀ h', lwI c L xs h' → R 60 248 912 (lwL i) [] h' Q) : R 60 248 73 (lwL i) [] h Q := by
  have kC9 := co_LA_law
  obtain ⟨r, h1, h2, ⟨fs, a1⟩, a2, a3, ⟨fs', b1⟩, b2, b3, b4⟩ := bo_goes hl (xs (i + 1))
  repeat (refine R_s kC9 rfl rfl ?_)
  refine R_ild kC9 rfl a2 (nI_add i 1) (by omega) (by omega) ?_
  refine R_cv kC9 rfl rfl rfl rfl a1 (by decide) a3 ?_
  repeat (refine R_s kC9 rfl rfl ?_)
  refine R_ild kC9 rfl b2 (nI_add i 1) (by omega) (by omega) ?_
  refine R_cv kC9 rfl rfl rfl rfl b1 (by decide) b3 ?_
  refine Rr_eq kC9 rfl (fun _ => ?_) (fun q => absurd rfl q)
  exact k h2 b4
theorem lw_line (hl : lwI c L xs h) (hL : L ≤ 3072) (hi : i + 6 ≤ L) (k : ∀ h', lwI c L xs h' → R 60 248 912 (lwL i) [] h' Q) : R 60 248 90 (lwL i) [] h Q := by
  have kC9 := co_LA_law
  obtain ⟨r, h1, h2, ⟨fs, a1⟩, a2, a3, ⟨fs', b1⟩, b2, b3, b4⟩ := bo_line hl (xs (i + 1)) (xs (i + 2)) (xs (i + 3))
  repeat (refine R_s kC9 rfl rfl ?_)
  refine R_ild kC9 rfl a2 (nI_add i 1) (by omega) (by omega) ?_
  repeat (refine R_s kC9 rfl rfl ?_)
  refine R_ild kC9 rfl a2 (nI_add i 2) (by omega) (by omega) ?_
  repeat (refine R_s kC9 rfl rfl ?_)
  refine R_ild kC9 rfl a2 (nI_add i 3) (by omega) (by omega) ?_
  refine R_cv kC9 rfl rfl rfl rfl a1 (by decide) a3 ?_
  repeat (refine R_s kC9 rfl rfl ?_)
  refine R_ild kC9 rfl b2 (nI_add i 1) (by omega) (by omega) ?_
  repeat (refine R_s kC9 rfl rfl ?_)
  refine R_ild kC9 rfl b2 (nI_add i 2) (by omega) (by omega) ?_
  repeat (refine R_s kC9 rfl rfl ?_)
  refine R_ild kC9 rfl b2 (nI_add i 3) (by omega) (by omega) ?_
  refine R_cv kC9 rfl rfl rfl rfl b1 (by decide) b3 ?_
  refine Rr_eq kC9 rfl (fun _ => ?_) (fun q => absurd rfl q)
  exact k h2 b4
theorem lw_choose (hl : lwI c L xs h) (hL : L ≤ 3072) (hi : i + 6 ≤ L) (k : ∀ h', lwI c L xs h' → R 60 248 912 (lwL i) [] h' Q) : R 60 248 127 (lwL i) [] h Q := by
  have kC9 := co_LA_law
  obtain ⟨r, h1, h2, ⟨fs, a1⟩, a2, a3, ⟨fs', b1⟩, b2, b3, b4⟩ := bo_choose hl (xs (i + 1))
  repeat (refine R_s kC9 rfl rfl ?_)
  refine R_ild kC9 rfl a2 (nI_add i 1) (by omega) (by omega) ?_
  refine R_cv kC9 rfl rfl rfl rfl a1 (by decide) a3 ?_
  repeat (refine R_s kC9 rfl rfl ?_)
  refine R_ild kC9 rfl b2 (nI_add i 1) (by omega) (by omega) ?_
  refine R_cv kC9 rfl rfl rfl rfl b1 (by decide) b3 ?_
  refine Rr_eq kC9 rfl (fun _ => ?_) (fun q => absurd rfl q)
  exact k h2 b4
theorem lw_drop (hl : lwI c L xs h) (hL : L ≤ 3072) (hi : i + 6 ≤ L) (k : ∀ h', lwI c L xs h' → R 60 248 912 (lwL i) [] h' Q) : R 60 248 144 (lwL i) [] h Q := by
  have kC9 := co_LA_law
  obtain ⟨r, h1, h2, ⟨fs, a1⟩, a2, a3, ⟨fs', b1⟩, b2, b3, b4⟩ := bo_drop hl (xs (i + 1))
  repeat (refine R_s kC9 rfl rfl ?_)
  refine R_ild kC9 rfl a2 (nI_add i 1) (by omega) (by omega) ?_
  refine R_cv kC9 rfl rfl rfl rfl a1 (by decide) a3 ?_
  repeat (refine R_s kC9 rfl rfl ?_)
  refine R_ild kC9 rfl b2 (nI_add i 1) (by omega) (by omega) ?_
  refine R_cv kC9 rfl rfl rfl rfl b1 (by decide) b3 ?_
  refine Rr_eq kC9 rfl (fun _ => ?_) (fun q => absurd rfl q)
  exact k h2 b4
theorem lw_feed (hl : lwI c L xs h) (hL : L ≤ 3072) (hi : i + 6 ≤ L) (k : ∀ h', lwI c L xs h' → R 60 248 912 (lwL i) [] h' Q) : R 60 248 161 (lwL i) [] h Q := by
  have kC9 := co_LA_law
  obtain ⟨r, h1, h2, ⟨fs, a1⟩, a2, a3, ⟨fs', b1⟩, b2, b3, b4⟩ := bo_feed hl (xs (i + 1))
  repeat (refine R_s kC9 rfl rfl ?_)
  refine R_ild kC9 rfl a2 (nI_add i 1) (by omega) (by omega) ?_
  refine R_cv kC9 rfl rfl rfl rfl a1 (by decide) a3 ?_
  repeat (refine R_s kC9 rfl rfl ?_)
  refine R_ild kC9 rfl b2 (nI_add i 1) (by omega) (by omega) ?_
  refine R_cv kC9 rfl rfl rfl rfl b1 (by decide) b3 ?_
  refine Rr_eq kC9 rfl (fun _ => ?_) (fun q => absurd rfl q)
  exact k h2 b4
theorem lw_read (hl : lwI c L xs h) (hL : L ≤ 3072) (hi : i + 6 ≤ L) (k : ∀ h', lwI c L xs h' → R 60 248 912 (lwL i) [] h' Q) : R 60 248 178 (lwL i) [] h Q := by
  have kC9 := co_LA_law
  obtain ⟨r, h1, h2, ⟨fs, a1⟩, a2, a3, ⟨fs', b1⟩, b2, b3, b4⟩ := bo_read hl
  repeat (refine R_s kC9 rfl rfl ?_)
  refine R_cv kC9 rfl rfl rfl rfl a1 (by decide) a3 ?_
  repeat (refine R_s kC9 rfl rfl ?_)
  refine R_cv kC9 rfl rfl rfl rfl b1 (by decide) b3 ?_
  refine Rr_eq kC9 rfl (fun _ => ?_) (fun q => absurd rfl q)
  exact k h2 b4
theorem lw_family (hl : lwI c L xs h) (hL : L ≤ 3072) (hi : i + 6 ≤ L) (k : ∀ h', lwI c L xs h' → R 60 248 912 (lwL i) [] h' Q) : R 60 248 185 (lwL i) [] h Q := by
  have kC9 := co_LA_law
  obtain ⟨r, h1, h2, ⟨fs, a1⟩, a2, a3, ⟨fs', b1⟩, b2, b3, b4⟩ := bo_family hl (xs (i + 1))
  repeat (refine R_s kC9 rfl rfl ?_)
  refine R_ild kC9 rfl a2 (nI_add i 1) (by omega) (by omega) ?_
  refine R_cv kC9 rfl rfl rfl rfl a1 (by decide) a3 ?_
  repeat (refine R_s kC9 rfl rfl ?_)
  refine R_ild kC9 rfl b2 (nI_add i 1) (by omega) (by omega) ?_
  refine R_cv kC9 rfl rfl rfl rfl b1 (by decide) b3 ?_
  refine Rr_eq kC9 rfl (fun _ => ?_) (fun q => absurd rfl q)
  exact k h2 b4
theorem lw_of (hl : lwI c L xs h) (hL : L ≤ 3072) (hi : i + 6 ≤ L) (k : ∀ h', lwI c L xs h' → R 60 248 912 (lwL i) [] h' Q) : R 60 248 202 (lwL i) [] h Q := by
  have kC9 := co_LA_law
  obtain ⟨r, h1, h2, ⟨fs, a1⟩, a2, a3, ⟨fs', b1⟩, b2, b3, b4⟩ := bo_of hl (xs (i + 1)) (xs (i + 2))
  repeat (refine R_s kC9 rfl rfl ?_)
  refine R_ild kC9 rfl a2 (nI_add i 1) (by omega) (by omega) ?_
  repeat (refine R_s kC9 rfl rfl ?_)
  refine R_ild kC9 rfl a2 (nI_add i 2) (by omega) (by omega) ?_
  refine R_cv kC9 rfl rfl rfl rfl a1 (by decide) a3 ?_
  repeat (refine R_s kC9 rfl rfl ?_)
  refine R_ild kC9 rfl b2 (nI_add i 1) (by omega) (by omega) ?_
  repeat (refine R_s kC9 rfl rfl ?_)
  refine R_ild kC9 rfl b2 (nI_add i 2) (by omega) (by omega) ?_
  refine R_cv kC9 rfl rfl rfl rfl b1 (by decide) b3 ?_
  refine Rr_eq kC9 rfl (fun _ => ?_) (fun q => absurd rfl q)
  exact k h2 b4
theorem lw_part (hl : lwI c L xs h) (hL : L ≤ 3072) (hi : i + 6 ≤ L) (k : ∀ h', lwI c L xs h' → R 60 248 912 (lwL i) [] h' Q) : R 60 248 229 (lwL i) [] h Q := by
  have kC9 := co_LA_law
  obtain ⟨r, h1, h2, ⟨fs, a1⟩, a2, a3, ⟨fs', b1⟩, b2, b3, b4⟩ := bo_part hl (xs (i + 1)) (xs (i + 2))
  repeat (refine R_s kC9 rfl rfl ?_)
  refine R_ild kC9 rfl a2 (nI_add i 1) (by omega) (by omega) ?_
  repeat (refine R_s kC9 rfl rfl ?_)
  refine R_ild kC9 rfl a2 (nI_add i 2) (by omega) (by omega) ?_
  refine R_cv kC9 rfl rfl rfl rfl a1 (by decide) a3 ?_
  repeat (refine R_s kC9 rfl rfl ?_)
  refine R_ild kC9 rfl b2 (nI_add i 1) (by omega) (by omega) ?_
  repeat (refine R_s kC9 rfl rfl ?_)
  refine R_ild kC9 rfl b2 (nI_add i 2) (by omega) (by omega) ?_
  refine R_cv kC9 rfl rfl rfl rfl b1 (by decide) b3 ?_
  refine Rr_eq kC9 rfl (fun _ => ?_) (fun q => absurd rfl q)
  exact k h2 b4
theorem lw_told (hl : lwI c L xs h) (hL : L ≤ 3072) (hi : i + 6 ≤ L) (k : ∀ h', lwI c L xs h' → R 60 248 912 (lwL i) [] h' Q) : R 60 248 256 (lwL i) [] h Q := by
  have kC9 := co_LA_law
  obtain ⟨r, h1, h2, ⟨fs, a1⟩, a2, a3, ⟨fs', b1⟩, b2, b3, b4⟩ := bo_told hl (xs (i + 1))
  repeat (refine R_s kC9 rfl rfl ?_)
  refine R_ild kC9 rfl a2 (nI_add i 1) (by omega) (by omega) ?_
  refine R_cv kC9 rfl rfl rfl rfl a1 (by decide) a3 ?_
  repeat (refine R_s kC9 rfl rfl ?_)
  refine R_ild kC9 rfl b2 (nI_add i 1) (by omega) (by omega) ?_
  refine R_cv kC9 rfl rfl rfl rfl b1 (by decide) b3 ?_
  refine Rr_eq kC9 rfl (fun _ => ?_) (fun q => absurd rfl q)
  exact k h2 b4
theorem lw_chosen (hl : lwI c L xs h) (hL : L ≤ 3072) (hi : i + 6 ≤ L) (k : ∀ h', lwI c L xs h' → R 60 248 912 (lwL i) [] h' Q) : R 60 248 273 (lwL i) [] h Q := by
  have kC9 := co_LA_law
  obtain ⟨r, h1, h2, ⟨fs, a1⟩, a2, a3, ⟨fs', b1⟩, b2, b3, b4⟩ := bo_chosen hl (xs (i + 1))
  repeat (refine R_s kC9 rfl rfl ?_)
  refine R_ild kC9 rfl a2 (nI_add i 1) (by omega) (by omega) ?_
  refine R_cv kC9 rfl rfl rfl rfl a1 (by decide) a3 ?_
  repeat (refine R_s kC9 rfl rfl ?_)
  refine R_ild kC9 rfl b2 (nI_add i 1) (by omega) (by omega) ?_
  refine R_cv kC9 rfl rfl rfl rfl b1 (by decide) b3 ?_
  refine Rr_eq kC9 rfl (fun _ => ?_) (fun q => absurd rfl q)
  exact k h2 b4
theorem lw_nests (hl : lwI c L xs h) (hL : L ≤ 3072) (hi : i + 6 ≤ L) (k : ∀ h', lwI c L xs h' → R 60 248 912 (lwL i) [] h' Q) : R 60 248 290 (lwL i) [] h Q := by
  have kC9 := co_LA_law
  obtain ⟨r, h1, h2, ⟨fs, a1⟩, a2, a3, ⟨fs', b1⟩, b2, b3, b4⟩ := bo_nests hl (xs (i + 1))
  repeat (refine R_s kC9 rfl rfl ?_)
  refine R_ild kC9 rfl a2 (nI_add i 1) (by omega) (by omega) ?_
  refine R_cv kC9 rfl rfl rfl rfl a1 (by decide) a3 ?_
  repeat (refine R_s kC9 rfl rfl ?_)
  refine R_ild kC9 rfl b2 (nI_add i 1) (by omega) (by omega) ?_
  refine R_cv kC9 rfl rfl rfl rfl b1 (by decide) b3 ?_
  refine Rr_eq kC9 rfl (fun _ => ?_) (fun q => absurd rfl q)
  exact k h2 b4
theorem lw_risen (hl : lwI c L xs h) (hL : L ≤ 3072) (hi : i + 6 ≤ L) (k : ∀ h', lwI c L xs h' → R 60 248 912 (lwL i) [] h' Q) : R 60 248 307 (lwL i) [] h Q := by
  have kC9 := co_LA_law
  obtain ⟨r, h1, h2, ⟨fs, a1⟩, a2, a3, ⟨fs', b1⟩, b2, b3, b4⟩ := bo_risen hl (xs (i + 1))
  repeat (refine R_s kC9 rfl rfl ?_)
  refine R_ild kC9 rfl a2 (nI_add i 1) (by omega) (by omega) ?_
  refine R_cv kC9 rfl rfl rfl rfl a1 (by decide) a3 ?_
  repeat (refine R_s kC9 rfl rfl ?_)
  refine R_ild kC9 rfl b2 (nI_add i 1) (by omega) (by omega) ?_
  refine R_cv kC9 rfl rfl rfl rfl b1 (by decide) b3 ?_
  refine Rr_eq kC9 rfl (fun _ => ?_) (fun q => absurd rfl q)
  exact k h2 b4
theorem lw_at (hl : lwI c L xs h) (hL : L ≤ 3072) (hi : i + 6 ≤ L) (k : ∀ h', lwI c L xs h' → R 60 248 912 (lwL i) [] h' Q) : R 60 248 324 (lwL i) [] h Q := by
  have kC9 := co_LA_law
  obtain ⟨r, h1, h2, ⟨fs, a1⟩, a2, a3, ⟨fs', b1⟩, b2, b3, b4⟩ := bo_at hl (xs (i + 1)) (xs (i + 2))
  repeat (refine R_s kC9 rfl rfl ?_)
  refine R_ild kC9 rfl a2 (nI_add i 1) (by omega) (by omega) ?_
  repeat (refine R_s kC9 rfl rfl ?_)
  refine R_ild kC9 rfl a2 (nI_add i 2) (by omega) (by omega) ?_
  refine R_cv kC9 rfl rfl rfl rfl a1 (by decide) a3 ?_
  repeat (refine R_s kC9 rfl rfl ?_)
  refine R_ild kC9 rfl b2 (nI_add i 1) (by omega) (by omega) ?_
  repeat (refine R_s kC9 rfl rfl ?_)
  refine R_ild kC9 rfl b2 (nI_add i 2) (by omega) (by omega) ?_
  refine R_cv kC9 rfl rfl rfl rfl b1 (by decide) b3 ?_
  refine Rr_eq kC9 rfl (fun _ => ?_) (fun q => absurd rfl q)
  exact k h2 b4
theorem lw_set (hl : lwI c L xs h) (hL : L ≤ 3072) (hi : i + 6 ≤ L) (k : ∀ h', lwI c L xs h' → R 60 248 912 (lwL i) [] h' Q) : R 60 248 351 (lwL i) [] h Q := by
  have kC9 := co_LA_law
  obtain ⟨r, h1, h2, ⟨fs, a1⟩, a2, a3, ⟨fs', b1⟩, b2, b3, b4⟩ := bo_set hl (xs (i + 1)) (xs (i + 2))
  repeat (refine R_s kC9 rfl rfl ?_)
  refine R_ild kC9 rfl a2 (nI_add i 1) (by omega) (by omega) ?_
  repeat (refine R_s kC9 rfl rfl ?_)
  refine R_ild kC9 rfl a2 (nI_add i 2) (by omega) (by omega) ?_
  refine R_cv kC9 rfl rfl rfl rfl a1 (by decide) a3 ?_
  repeat (refine R_s kC9 rfl rfl ?_)
  refine R_ild kC9 rfl b2 (nI_add i 1) (by omega) (by omega) ?_
  repeat (refine R_s kC9 rfl rfl ?_)
  refine R_ild kC9 rfl b2 (nI_add i 2) (by omega) (by omega) ?_
  refine R_cv kC9 rfl rfl rfl rfl b1 (by decide) b3 ?_
  refine Rr_eq kC9 rfl (fun _ => ?_) (fun q => absurd rfl q)
  exact k h2 b4
theorem lw_flip (hl : lwI c L xs h) (hL : L ≤ 3072) (hi : i + 6 ≤ L) (k : ∀ h', lwI c L xs h' → R 60 248 912 (lwL i) [] h' Q) : R 60 248 378 (lwL i) [] h Q := by
  have kC9 := co_LA_law
  obtain ⟨r, h1, h2, ⟨fs, a1⟩, a2, a3, ⟨fs', b1⟩, b2, b3, b4⟩ := bo_flip hl (xs (i + 1)) (xs (i + 2))
  repeat (refine R_s kC9 rfl rfl ?_)
  refine R_ild kC9 rfl a2 (nI_add i 1) (by omega) (by omega) ?_
  repeat (refine R_s kC9 rfl rfl ?_)
  refine R_ild kC9 rfl a2 (nI_add i 2) (by omega) (by omega) ?_
  refine R_cv kC9 rfl rfl rfl rfl a1 (by decide) a3 ?_
  repeat (refine R_s kC9 rfl rfl ?_)
  refine R_ild kC9 rfl b2 (nI_add i 1) (by omega) (by omega) ?_
  repeat (refine R_s kC9 rfl rfl ?_)
  refine R_ild kC9 rfl b2 (nI_add i 2) (by omega) (by omega) ?_
  refine R_cv kC9 rfl rfl rfl rfl b1 (by decide) b3 ?_
  refine Rr_eq kC9 rfl (fun _ => ?_) (fun q => absurd rfl q)
  exact k h2 b4
theorem lw_corner (hl : lwI c L xs h) (hL : L ≤ 3072) (hi : i + 6 ≤ L) (k : ∀ h', lwI c L xs h' → R 60 248 912 (lwL i) [] h' Q) : R 60 248 405 (lwL i) [] h Q := by
  have kC9 := co_LA_law
  obtain ⟨r, h1, h2, ⟨fs, a1⟩, a2, a3, ⟨fs', b1⟩, b2, b3, b4⟩ := bo_corner hl (xs (i + 1)) (xs (i + 2))
  repeat (refine R_s kC9 rfl rfl ?_)
  refine R_ild kC9 rfl a2 (nI_add i 1) (by omega) (by omega) ?_
  repeat (refine R_s kC9 rfl rfl ?_)
  refine R_ild kC9 rfl a2 (nI_add i 2) (by omega) (by omega) ?_
  refine R_cv kC9 rfl rfl rfl rfl a1 (by decide) a3 ?_
  repeat (refine R_s kC9 rfl rfl ?_)
  refine R_ild kC9 rfl b2 (nI_add i 1) (by omega) (by omega) ?_
  repeat (refine R_s kC9 rfl rfl ?_)
  refine R_ild kC9 rfl b2 (nI_add i 2) (by omega) (by omega) ?_
  refine R_cv kC9 rfl rfl rfl rfl b1 (by decide) b3 ?_
  refine Rr_eq kC9 rfl (fun _ => ?_) (fun q => absurd rfl q)
  exact k h2 b4
theorem lw_steps (hl : lwI c L xs h) (hL : L ≤ 3072) (hi : i + 6 ≤ L) (k : ∀ h', lwI c L xs h' → R 60 248 912 (lwL i) [] h' Q) : R 60 248 432 (lwL i) [] h Q := by
  have kC9 := co_LA_law
  obtain ⟨r, h1, h2, ⟨fs, a1⟩, a2, a3, ⟨fs', b1⟩, b2, b3, b4⟩ := bo_steps hl (xs (i + 1)) (xs (i + 2))
  repeat (refine R_s kC9 rfl rfl ?_)
  refine R_ild kC9 rfl a2 (nI_add i 1) (by omega) (by omega) ?_
  repeat (refine R_s kC9 rfl rfl ?_)
  refine R_ild kC9 rfl a2 (nI_add i 2) (by omega) (by omega) ?_
  refine R_cv kC9 rfl rfl rfl rfl a1 (by decide) a3 ?_
  repeat (refine R_s kC9 rfl rfl ?_)
  refine R_ild kC9 rfl b2 (nI_add i 1) (by omega) (by omega) ?_
  repeat (refine R_s kC9 rfl rfl ?_)
  refine R_ild kC9 rfl b2 (nI_add i 2) (by omega) (by omega) ?_
  refine R_cv kC9 rfl rfl rfl rfl b1 (by decide) b3 ?_
  refine Rr_eq kC9 rfl (fun _ => ?_) (fun q => absurd rfl q)
  exact k h2 b4
theorem lw_face (hl : lwI c L xs h) (hL : L ≤ 3072) (hi : i + 6 ≤ L) (k : ∀ h', lwI c L xs h' → R 60 248 912 (lwL i) [] h' Q) : R 60 248 459 (lwL i) [] h Q := by
  have kC9 := co_LA_law
  obtain ⟨r, h1, h2, ⟨fs, a1⟩, a2, a3, ⟨fs', b1⟩, b2, b3, b4⟩ := bo_face hl (xs (i + 1)) (xs (i + 2))
  repeat (refine R_s kC9 rfl rfl ?_)
  refine R_ild kC9 rfl a2 (nI_add i 1) (by omega) (by omega) ?_
  repeat (refine R_s kC9 rfl rfl ?_)
  refine R_ild kC9 rfl a2 (nI_add i 2) (by omega) (by omega) ?_
  refine R_cv kC9 rfl rfl rfl rfl a1 (by decide) a3 ?_
  repeat (refine R_s kC9 rfl rfl ?_)
  refine R_ild kC9 rfl b2 (nI_add i 1) (by omega) (by omega) ?_
  repeat (refine R_s kC9 rfl rfl ?_)
  refine R_ild kC9 rfl b2 (nI_add i 2) (by omega) (by omega) ?_
  refine R_cv kC9 rfl rfl rfl rfl b1 (by decide) b3 ?_
  refine Rr_eq kC9 rfl (fun _ => ?_) (fun q => absurd rfl q)
  exact k h2 b4
theorem lw_leads (hl : lwI c L xs h) (hL : L ≤ 3072) (hi : i + 6 ≤ L) (k : ∀ h', lwI c L xs h' → R 60 248 912 (lwL i) [] h' Q) : R 60 248 486 (lwL i) [] h Q := by
  have kC9 := co_LA_law
  obtain ⟨r, h1, h2, ⟨fs, a1⟩, a2, a3, ⟨fs', b1⟩, b2, b3, b4⟩ := bo_leads hl (xs (i + 1))
  repeat (refine R_s kC9 rfl rfl ?_)
  refine R_ild kC9 rfl a2 (nI_add i 1) (by omega) (by omega) ?_
  refine R_cv kC9 rfl rfl rfl rfl a1 (by decide) a3 ?_
  repeat (refine R_s kC9 rfl rfl ?_)
  refine R_ild kC9 rfl b2 (nI_add i 1) (by omega) (by omega) ?_
  refine R_cv kC9 rfl rfl rfl rfl b1 (by decide) b3 ?_
  refine Rr_eq kC9 rfl (fun _ => ?_) (fun q => absurd rfl q)
  exact k h2 b4
theorem lw_see (hl : lwI c L xs h) (hL : L ≤ 3072) (hi : i + 6 ≤ L) (k : ∀ h', lwI c L xs h' → R 60 248 912 (lwL i) [] h' Q) : R 60 248 503 (lwL i) [] h Q := by
  have kC9 := co_LA_law
  obtain ⟨r, h1, h2, ⟨fs, a1⟩, a2, a3, ⟨fs', b1⟩, b2, b3, b4⟩ := bo_see hl (xs (i + 1)) (xs (i + 2))
  repeat (refine R_s kC9 rfl rfl ?_)
  refine R_ild kC9 rfl a2 (nI_add i 1) (by omega) (by omega) ?_
  repeat (refine R_s kC9 rfl rfl ?_)
  refine R_ild kC9 rfl a2 (nI_add i 2) (by omega) (by omega) ?_
  refine R_cv kC9 rfl rfl rfl rfl a1 (by decide) a3 ?_
  repeat (refine R_s kC9 rfl rfl ?_)
  refine R_ild kC9 rfl b2 (nI_add i 1) (by omega) (by omega) ?_
  repeat (refine R_s kC9 rfl rfl ?_)
  refine R_ild kC9 rfl b2 (nI_add i 2) (by omega) (by omega) ?_
  refine R_cv kC9 rfl rfl rfl rfl b1 (by decide) b3 ?_
  refine Rr_eq kC9 rfl (fun _ => ?_) (fun q => absurd rfl q)
  exact k h2 b4
theorem lw_fits (hl : lwI c L xs h) (hL : L ≤ 3072) (hi : i + 6 ≤ L) (k : ∀ h', lwI c L xs h' → R 60 248 912 (lwL i) [] h' Q) : R 60 248 530 (lwL i) [] h Q := by
  have kC9 := co_LA_law
  obtain ⟨r, h1, h2, ⟨fs, a1⟩, a2, a3, ⟨fs', b1⟩, b2, b3, b4⟩ := bo_fits hl
  repeat (refine R_s kC9 rfl rfl ?_)
  refine R_cv kC9 rfl rfl rfl rfl a1 (by decide) a3 ?_
  repeat (refine R_s kC9 rfl rfl ?_)
  refine R_cv kC9 rfl rfl rfl rfl b1 (by decide) b3 ?_
  refine Rr_eq kC9 rfl (fun _ => ?_) (fun q => absurd rfl q)
  exact k h2 b4
theorem lw_odds (hl : lwI c L xs h) (hL : L ≤ 3072) (hi : i + 6 ≤ L) (k : ∀ h', lwI c L xs h' → R 60 248 912 (lwL i) [] h' Q) : R 60 248 537 (lwL i) [] h Q := by
  have kC9 := co_LA_law
  obtain ⟨r, h1, h2, ⟨fs, a1⟩, a2, a3, ⟨fs', b1⟩, b2, b3, b4⟩ := bo_odds hl (xs (i + 1)) (xs (i + 2))
  repeat (refine R_s kC9 rfl rfl ?_)
  refine R_ild kC9 rfl a2 (nI_add i 1) (by omega) (by omega) ?_
  repeat (refine R_s kC9 rfl rfl ?_)
  refine R_ild kC9 rfl a2 (nI_add i 2) (by omega) (by omega) ?_
  refine R_cv kC9 rfl rfl rfl rfl a1 (by decide) a3 ?_
  repeat (refine R_s kC9 rfl rfl ?_)
  refine R_ild kC9 rfl b2 (nI_add i 1) (by omega) (by omega) ?_
  repeat (refine R_s kC9 rfl rfl ?_)
  refine R_ild kC9 rfl b2 (nI_add i 2) (by omega) (by omega) ?_
  refine R_cv kC9 rfl rfl rfl rfl b1 (by decide) b3 ?_
  repeat (refine R_s kC9 rfl rfl ?_)
  refine Zr_eq kC9 rfl (fun _ => ?_) (fun q => absurd (lgc_self r) q)
  exact k h2 b4
theorem lw_mean (hl : lwI c L xs h) (hL : L ≤ 3072) (hi : i + 6 ≤ L) (k : ∀ h', lwI c L xs h' → R 60 248 912 (lwL i) [] h' Q) : R 60 248 565 (lwL i) [] h Q := by
  have kC9 := co_LA_law
  obtain ⟨r, h1, h2, ⟨fs, a1⟩, a2, a3, ⟨fs', b1⟩, b2, b3, b4⟩ := bo_mean hl (xs (i + 1)) (xs (i + 2))
  repeat (refine R_s kC9 rfl rfl ?_)
  refine R_ild kC9 rfl a2 (nI_add i 1) (by omega) (by omega) ?_
  repeat (refine R_s kC9 rfl rfl ?_)
  refine R_ild kC9 rfl a2 (nI_add i 2) (by omega) (by omega) ?_
  refine R_cv kC9 rfl rfl rfl rfl a1 (by decide) a3 ?_
  repeat (refine R_s kC9 rfl rfl ?_)
  refine R_ild kC9 rfl b2 (nI_add i 1) (by omega) (by omega) ?_
  repeat (refine R_s kC9 rfl rfl ?_)
  refine R_ild kC9 rfl b2 (nI_add i 2) (by omega) (by omega) ?_
  refine R_cv kC9 rfl rfl rfl rfl b1 (by decide) b3 ?_
  repeat (refine R_s kC9 rfl rfl ?_)
  refine Zr_eq kC9 rfl (fun _ => ?_) (fun q => absurd (lgc_self r) q)
  exact k h2 b4
theorem lw_event (hl : lwI c L xs h) (hL : L ≤ 3072) (hi : i + 6 ≤ L) (k : ∀ h', lwI c L xs h' → R 60 248 912 (lwL i) [] h' Q) : R 60 248 593 (lwL i) [] h Q := by
  have kC9 := co_LA_law
  obtain ⟨r, h1, h2, ⟨fs, a1⟩, a2, a3, ⟨fs', b1⟩, b2, b3, b4⟩ := bo_event hl (xs (i + 1)) (xs (i + 2))
  repeat (refine R_s kC9 rfl rfl ?_)
  refine R_ild kC9 rfl a2 (nI_add i 1) (by omega) (by omega) ?_
  repeat (refine R_s kC9 rfl rfl ?_)
  refine R_ild kC9 rfl a2 (nI_add i 2) (by omega) (by omega) ?_
  refine R_cv kC9 rfl rfl rfl rfl a1 (by decide) a3 ?_
  repeat (refine R_s kC9 rfl rfl ?_)
  refine R_ild kC9 rfl b2 (nI_add i 1) (by omega) (by omega) ?_
  repeat (refine R_s kC9 rfl rfl ?_)
  refine R_ild kC9 rfl b2 (nI_add i 2) (by omega) (by omega) ?_
  refine R_cv kC9 rfl rfl rfl rfl b1 (by decide) b3 ?_
  refine Rr_eq kC9 rfl (fun _ => ?_) (fun q => absurd rfl q)
  exact k h2 b4
theorem lw_after (hl : lwI c L xs h) (hL : L ≤ 3072) (hi : i + 6 ≤ L) (k : ∀ h', lwI c L xs h' → R 60 248 912 (lwL i) [] h' Q) : R 60 248 620 (lwL i) [] h Q := by
  have kC9 := co_LA_law
  obtain ⟨r, h1, h2, ⟨fs, a1⟩, a2, a3, ⟨fs', b1⟩, b2, b3, b4⟩ := bo_after hl (xs (i + 1))
  repeat (refine R_s kC9 rfl rfl ?_)
  refine R_ild kC9 rfl a2 (nI_add i 1) (by omega) (by omega) ?_
  refine R_cv kC9 rfl rfl rfl rfl a1 (by decide) a3 ?_
  repeat (refine R_s kC9 rfl rfl ?_)
  refine R_ild kC9 rfl b2 (nI_add i 1) (by omega) (by omega) ?_
  refine R_cv kC9 rfl rfl rfl rfl b1 (by decide) b3 ?_
  refine Rr_eq kC9 rfl (fun _ => ?_) (fun q => absurd rfl q)
  exact k h2 b4
theorem lw_book (hl : lwI c L xs h) (hL : L ≤ 3072) (hi : i + 6 ≤ L) (k : ∀ h', lwI c L xs h' → R 60 248 912 (lwL i) [] h' Q) : R 60 248 637 (lwL i) [] h Q := by
  have kC9 := co_LA_law
  obtain ⟨r, h1, h2, ⟨fs, a1⟩, a2, a3, ⟨fs', b1⟩, b2, b3, b4⟩ := bo_book hl (xs (i + 1)) (xs (i + 2))
  repeat (refine R_s kC9 rfl rfl ?_)
  refine R_ild kC9 rfl a2 (nI_add i 1) (by omega) (by omega) ?_
  repeat (refine R_s kC9 rfl rfl ?_)
  refine R_ild kC9 rfl a2 (nI_add i 2) (by omega) (by omega) ?_
  refine R_cv kC9 rfl rfl rfl rfl a1 (by decide) a3 ?_
  repeat (refine R_s kC9 rfl rfl ?_)
  refine R_ild kC9 rfl b2 (nI_add i 1) (by omega) (by omega) ?_
  repeat (refine R_s kC9 rfl rfl ?_)
  refine R_ild kC9 rfl b2 (nI_add i 2) (by omega) (by omega) ?_
  refine R_cv kC9 rfl rfl rfl rfl b1 (by decide) b3 ?_
  refine Rr_eq kC9 rfl (fun _ => ?_) (fun q => absurd rfl q)
  exact k h2 b4
theorem lw_looked (hl : lwI c L xs h) (hL : L ≤ 3072) (hi : i + 6 ≤ L) (k : ∀ h', lwI c L xs h' → R 60 248 912 (lwL i) [] h' Q) : R 60 248 664 (lwL i) [] h Q := by
  have kC9 := co_LA_law
  obtain ⟨r, h1, h2, ⟨fs, a1⟩, a2, a3, ⟨fs', b1⟩, b2, b3, b4⟩ := bo_looked hl
  repeat (refine R_s kC9 rfl rfl ?_)
  refine R_cv kC9 rfl rfl rfl rfl a1 (by decide) a3 ?_
  repeat (refine R_s kC9 rfl rfl ?_)
  refine R_cv kC9 rfl rfl rfl rfl b1 (by decide) b3 ?_
  refine Rr_eq kC9 rfl (fun _ => ?_) (fun q => absurd rfl q)
  exact k h2 b4
theorem lw_judge (hl : lwI c L xs h) (hL : L ≤ 3072) (hi : i + 6 ≤ L) (k : ∀ h', lwI c L xs h' → R 60 248 912 (lwL i) [] h' Q) : R 60 248 671 (lwL i) [] h Q := by
  have kC9 := co_LA_law
  obtain ⟨r, h1, h2, ⟨fs, a1⟩, a2, a3, ⟨fs', b1⟩, b2, b3, b4⟩ := bo_judge hl (xs (i + 1)) (xs (i + 2))
  repeat (refine R_s kC9 rfl rfl ?_)
  refine R_ild kC9 rfl a2 (nI_add i 1) (by omega) (by omega) ?_
  repeat (refine R_s kC9 rfl rfl ?_)
  refine R_ild kC9 rfl a2 (nI_add i 2) (by omega) (by omega) ?_
  refine R_cv kC9 rfl rfl rfl rfl a1 (by decide) a3 ?_
  repeat (refine R_s kC9 rfl rfl ?_)
  refine R_ild kC9 rfl b2 (nI_add i 1) (by omega) (by omega) ?_
  repeat (refine R_s kC9 rfl rfl ?_)
  refine R_ild kC9 rfl b2 (nI_add i 2) (by omega) (by omega) ?_
  refine R_cv kC9 rfl rfl rfl rfl b1 (by decide) b3 ?_
  refine Rr_eq kC9 rfl (fun _ => ?_) (fun q => absurd rfl q)
  exact k h2 b4
theorem lw_image (hl : lwI c L xs h) (hL : L ≤ 3072) (hi : i + 6 ≤ L) (k : ∀ h', lwI c L xs h' → R 60 248 912 (lwL i) [] h' Q) : R 60 248 698 (lwL i) [] h Q := by
  have kC9 := co_LA_law
  obtain ⟨r, h1, h2, ⟨fs, a1⟩, a2, a3, ⟨fs', b1⟩, b2, b3, b4⟩ := bo_image hl
  repeat (refine R_s kC9 rfl rfl ?_)
  refine R_cv kC9 rfl rfl rfl rfl a1 (by decide) a3 ?_
  repeat (refine R_s kC9 rfl rfl ?_)
  refine R_cv kC9 rfl rfl rfl rfl b1 (by decide) b3 ?_
  refine Rr_eq kC9 rfl (fun _ => ?_) (fun q => absurd rfl q)
  exact k h2 b4
theorem lw_undo (hl : lwI c L xs h) (hL : L ≤ 3072) (hi : i + 6 ≤ L) (k : ∀ h', lwI c L xs h' → R 60 248 912 (lwL i) [] h' Q) : R 60 248 705 (lwL i) [] h Q := by
  have kC9 := co_LA_law
  obtain ⟨r, h1, h2, ⟨fs, a1⟩, a2, a3, ⟨fs', b1⟩, b2, b3, b4⟩ := bo_undo hl
  repeat (refine R_s kC9 rfl rfl ?_)
  refine R_cv kC9 rfl rfl rfl rfl a1 (by decide) a3 ?_
  repeat (refine R_s kC9 rfl rfl ?_)
  refine R_cv kC9 rfl rfl rfl rfl b1 (by decide) b3 ?_
  refine Rr_eq kC9 rfl (fun _ => ?_) (fun q => absurd rfl q)
  exact k h2 b4
theorem lw_count (hl : lwI c L xs h) (hL : L ≤ 3072) (hi : i + 6 ≤ L) (k : ∀ h', lwI c L xs h' → R 60 248 912 (lwL i) [] h' Q) : R 60 248 712 (lwL i) [] h Q := by
  have kC9 := co_LA_law
  obtain ⟨r, h1, h2, ⟨fs, a1⟩, a2, a3, ⟨fs', b1⟩, b2, b3, b4⟩ := bo_count hl (xs (i + 1))
  repeat (refine R_s kC9 rfl rfl ?_)
  refine R_ild kC9 rfl a2 (nI_add i 1) (by omega) (by omega) ?_
  refine R_cv kC9 rfl rfl rfl rfl a1 (by decide) a3 ?_
  repeat (refine R_s kC9 rfl rfl ?_)
  refine R_ild kC9 rfl b2 (nI_add i 1) (by omega) (by omega) ?_
  refine R_cv kC9 rfl rfl rfl rfl b1 (by decide) b3 ?_
  refine Rr_eq kC9 rfl (fun _ => ?_) (fun q => absurd rfl q)
  exact k h2 b4
theorem lw_tape (hl : lwI c L xs h) (hL : L ≤ 3072) (hi : i + 6 ≤ L) (k : ∀ h', lwI c L xs h' → R 60 248 912 (lwL i) [] h' Q) : R 60 248 729 (lwL i) [] h Q := by
  have kC9 := co_LA_law
  obtain ⟨r, h1, h2, ⟨fs, a1⟩, a2, a3, ⟨fs', b1⟩, b2, b3, b4⟩ := bo_tape hl (xs (i + 1)) (xs (i + 2)) (xs (i + 3))
  repeat (refine R_s kC9 rfl rfl ?_)
  refine R_ild kC9 rfl a2 (nI_add i 1) (by omega) (by omega) ?_
  repeat (refine R_s kC9 rfl rfl ?_)
  refine R_ild kC9 rfl a2 (nI_add i 2) (by omega) (by omega) ?_
  repeat (refine R_s kC9 rfl rfl ?_)
  refine R_ild kC9 rfl a2 (nI_add i 3) (by omega) (by omega) ?_
  refine R_cv kC9 rfl rfl rfl rfl a1 (by decide) a3 ?_
  repeat (refine R_s kC9 rfl rfl ?_)
  refine R_ild kC9 rfl b2 (nI_add i 1) (by omega) (by omega) ?_
  repeat (refine R_s kC9 rfl rfl ?_)
  refine R_ild kC9 rfl b2 (nI_add i 2) (by omega) (by omega) ?_
  repeat (refine R_s kC9 rfl rfl ?_)
  refine R_ild kC9 rfl b2 (nI_add i 3) (by omega) (by omega) ?_
  refine R_cv kC9 rfl rfl rfl rfl b1 (by decide) b3 ?_
  refine Rr_eq kC9 rfl (fun _ => ?_) (fun q => absurd rfl q)
  exact k h2 b4
theorem lw_item (hl : lwI c L xs h) (hL : L ≤ 3072) (hi : i + 6 ≤ L) (k : ∀ h', lwI c L xs h' → R 60 248 912 (lwL i) [] h' Q) : R 60 248 766 (lwL i) [] h Q := by
  have kC9 := co_LA_law
  obtain ⟨r, h1, h2, ⟨fs, a1⟩, a2, a3, ⟨fs', b1⟩, b2, b3, b4⟩ := bo_item hl (xs (i + 1)) (xs (i + 2)) (lxA (xs (i + 3)) (xs (i + 4)))
  repeat (refine R_s kC9 rfl rfl ?_)
  refine R_ild kC9 rfl a2 (nI_add i 1) (by omega) (by omega) ?_
  repeat (refine R_s kC9 rfl rfl ?_)
  refine R_ild kC9 rfl a2 (nI_add i 2) (by omega) (by omega) ?_
  repeat (refine R_s kC9 rfl rfl ?_)
  refine R_ild kC9 rfl a2 (nI_add i 3) (by omega) (by omega) ?_
  repeat (refine R_s kC9 rfl rfl ?_)
  refine R_ild kC9 rfl a2 (nI_add i 4) (by omega) (by omega) ?_
  repeat (refine R_s kC9 rfl rfl ?_)
  refine R_cv kC9 rfl rfl rfl rfl a1 (by decide) a3 ?_
  repeat (refine R_s kC9 rfl rfl ?_)
  refine R_ild kC9 rfl b2 (nI_add i 1) (by omega) (by omega) ?_
  repeat (refine R_s kC9 rfl rfl ?_)
  refine R_ild kC9 rfl b2 (nI_add i 2) (by omega) (by omega) ?_
  repeat (refine R_s kC9 rfl rfl ?_)
  refine R_ild kC9 rfl b2 (nI_add i 3) (by omega) (by omega) ?_
  repeat (refine R_s kC9 rfl rfl ?_)
  refine R_ild kC9 rfl b2 (nI_add i 4) (by omega) (by omega) ?_
  repeat (refine R_s kC9 rfl rfl ?_)
  refine R_cv kC9 rfl rfl rfl rfl b1 (by decide) b3 ?_
  refine Rr_eq kC9 rfl (fun _ => ?_) (fun q => absurd rfl q)
  exact k h2 b4
theorem lw_peek (hl : lwI c L xs h) (hL : L ≤ 3072) (hi : i + 6 ≤ L) (k : ∀ h', lwI c L xs h' → R 60 248 912 (lwL i) [] h' Q) : R 60 248 827 (lwL i) [] h Q := by
  have kC9 := co_LA_law
  obtain ⟨r, h1, h2, ⟨fs, a1⟩, a2, a3, ⟨fs', b1⟩, b2, b3, b4⟩ := bo_peek hl (xs (i + 1)) (xs (i + 2))
  repeat (refine R_s kC9 rfl rfl ?_)
  refine R_ild kC9 rfl a2 (nI_add i 1) (by omega) (by omega) ?_
  repeat (refine R_s kC9 rfl rfl ?_)
  refine R_ild kC9 rfl a2 (nI_add i 2) (by omega) (by omega) ?_
  refine R_cv kC9 rfl rfl rfl rfl a1 (by decide) a3 ?_
  repeat (refine R_s kC9 rfl rfl ?_)
  refine R_ild kC9 rfl b2 (nI_add i 1) (by omega) (by omega) ?_
  repeat (refine R_s kC9 rfl rfl ?_)
  refine R_ild kC9 rfl b2 (nI_add i 2) (by omega) (by omega) ?_
  refine R_cv kC9 rfl rfl rfl rfl b1 (by decide) b3 ?_
  repeat (refine R_s kC9 rfl rfl ?_)
  refine Zr_eq kC9 rfl (fun _ => ?_) (fun q => absurd (lgc_self r) q)
  exact k h2 b4
theorem lw_shift (hl : lwI c L xs h) (hL : L ≤ 3072) (hi : i + 6 ≤ L) (k : ∀ h', lwI c L xs h' → R 60 248 912 (lwL i) [] h' Q) : R 60 248 855 (lwL i) [] h Q := by
  have kC9 := co_LA_law
  obtain ⟨r, h1, h2, ⟨fs, a1⟩, a2, a3, ⟨fs', b1⟩, b2, b3, b4⟩ := bo_shift hl (xs (i + 1)) (xs (i + 2)) (xs (i + 3)) (xs (i + 4)) (xs (i + 5))
  repeat (refine R_s kC9 rfl rfl ?_)
  refine R_ild kC9 rfl a2 (nI_add i 1) (by omega) (by omega) ?_
  repeat (refine R_s kC9 rfl rfl ?_)
  refine R_ild kC9 rfl a2 (nI_add i 2) (by omega) (by omega) ?_
  repeat (refine R_s kC9 rfl rfl ?_)
  refine R_ild kC9 rfl a2 (nI_add i 3) (by omega) (by omega) ?_
  repeat (refine R_s kC9 rfl rfl ?_)
  refine R_ild kC9 rfl a2 (nI_add i 4) (by omega) (by omega) ?_
  repeat (refine R_s kC9 rfl rfl ?_)
  refine R_ild kC9 rfl a2 (nI_add i 5) (by omega) (by omega) ?_
  refine R_cv kC9 rfl rfl rfl rfl a1 (by decide) a3 ?_
  repeat (refine R_s kC9 rfl rfl ?_)
  refine R_ild kC9 rfl b2 (nI_add i 1) (by omega) (by omega) ?_
  repeat (refine R_s kC9 rfl rfl ?_)
  refine R_ild kC9 rfl b2 (nI_add i 2) (by omega) (by omega) ?_
  repeat (refine R_s kC9 rfl rfl ?_)
  refine R_ild kC9 rfl b2 (nI_add i 3) (by omega) (by omega) ?_
  repeat (refine R_s kC9 rfl rfl ?_)
  refine R_ild kC9 rfl b2 (nI_add i 4) (by omega) (by omega) ?_
  repeat (refine R_s kC9 rfl rfl ?_)
  refine R_ild kC9 rfl b2 (nI_add i 5) (by omega) (by omega) ?_
  refine R_cv kC9 rfl rfl rfl rfl b1 (by decide) b3 ?_
  refine Rr_eq kC9 rfl (fun _ => ?_) (fun q => absurd rfl q)
  exact k h2 b4
end
