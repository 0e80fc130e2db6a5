/-! THE REFERENCE, 28: farthest, steps, told -/
def mxF (f : Nat → Nat) : Nat → Nat
  | 0 => 0
  | c + 1 => if mxF f c < f c then f c else mxF f c
theorem mxF_succ (f : Nat → Nat) (c : Nat) : mxF f (c + 1) = if mxF f c < f c then f c else mxF f c := rfl
theorem mxF_lt {f : Nat → Nat} {b : Nat} (hb : 0 < b) : ∀ c, (∀ i, i < c → f i < b) → mxF f c < b
  | 0, _ => hb
  | c + 1, hf => by
    rw [mxF_succ]
    split
    · exact hf c (by omega)
    · exact mxF_lt hb c (fun i hi => hf i (by omega))
noncomputable def farN (n : Nat) (S : Int32) : Nat := mxF (fun c => lastD (bsp n S c)) (cornS n S).length
noncomputable def stepsR (n : Nat) (S v w : Int32) : Int32 := if (itI (cornS n S).length v && itI (cornS n S).length w) = true then fI ((bsp n S v.toNatClampNeg).1 w.toNatClampNeg) else -1
theorem bsp_inv {n : Nat} {S : Int32} (hfl : flOK n S) {c : Nat} (hc : c < (cornS n S).length) : BInv (cornS n S).length (bsp n S c) := bfI_inv (fun u j hu hj => (hfl.at hu hj).1) _ _ _ (bf0_inv hc)
theorem lastD_lt {n : Nat} {S : Int32} (hfl : flOK n S) {c : Nat} (hc : c < (cornS n S).length) : lastD (bsp n S c) < (cornS n S).length := by
  have hI := bsp_inv hfl hc
  have hl := hI.len
  unfold lastD
  cases hq : (bsp n S c).1 ((bsp n S c).2.getD ((bsp n S c).2.length - 1) 0) with
  | none => show 0 < _; omega
  | some d => have := hI.2.2.2.1 _ d hq; show d < _; omega
section
variable {h : AH} {k fed pl le fi : Int32} {G : Nat → Int32} {n : Nat} {S : Int32} {z : ZT}
theorem lp_farthest (d : Nat) (hn : n ≤ 5) (hn2 : 2 ≤ n) (h0 : G 0 = nI n) (hz : caZ n S z) (hb : c120 n S) (hfl : flOK n S) : ∀ (m c : Nat) (h : AH), mCel h k fed pl le fi G z → rows4 h → c + m = (cornS n S).length → R (d + 1) 206 6 [some (.ref 76), some (.int (nI (mxF (fun c => lastD (bsp n S c)) c))), some (.int (nI c))] [] h (fun r2 h2 => ∃ h', (mCel h' k fed pl le fi G z ∧ frm2 h h' ∧ rows4 h') ∧ r2 = some (.int (nI (farN n S))) ∧ h2 = h') := by
  have kC9 := co_MO_farthest
  have hl : (cornS n S).length ≤ 120 := by rw [cornS_len]; exact hb
  intro m
  induction m with
  | zero =>
    intro c h hm hr hc
    have ho := hm.1
    rw [hz.2.2.1] at ho
    repeat (refine R_s kC9 rfl rfl ?_)
    refine R_get kC9 rfl (ho) rfl ?_
    refine R_ge kC9 rfl (rfl) (rfl) (by omega) (by omega) (fun hc => ?_) (fun hc => ?_)
    · repeat (refine R_s kC9 rfl rfl ?_)
      have : c = (cornS n S).length := by omega
      rw [this]
      exact R_ri kC9 rfl ⟨h, ⟨hm, frm2.rfl, hr⟩, rfl, rfl⟩
    · omega
  | succ m ih =>
    intro c h hm hr hc
    have ho := hm.1
    rw [hz.2.2.1] at ho
    obtain ⟨⟨F, hF⟩, ⟨Qf, hQ⟩, hr3, hr4⟩ := hr
    repeat (refine R_s kC9 rfl rfl ?_)
    refine R_get kC9 rfl (ho) rfl ?_
    refine R_ge kC9 rfl (rfl) (rfl) (by omega) (by omega) (fun hc => ?_) (fun hc => ?_)
    · omega
    · obtain ⟨⟨F2, Q2⟩, hR, hcl⟩ := sp_MO_spreads d hm hn hn2 h0 hz hb hfl hF hQ (c := c) (by omega)
      dsimp only at hR hcl
      repeat (refine R_s kC9 rfl rfl ?_)
      refine R_cv kC9 rfl rfl rfl rfl ho (by decide) hcl ?_
      refine R_max kC9 rfl (by decide) ?_
      repeat (refine R_s kC9 rfl rfl ?_)
      refine R_g kC9 rfl ?_
      have e : (if nI (mxF (fun c => lastD (bsp n S c)) c) < nI (lastD (bsp n S c)) then nI (lastD (bsp n S c)) else nI (mxF (fun c => lastD (bsp n S c)) c)) = nI (mxF (fun c => lastD (bsp n S c)) (c + 1)) := by
        have l1 : mxF (fun c => lastD (bsp n S c)) c < (cornS n S).length := mxF_lt (by omega) c (fun i hi => lastD_lt hfl (by omega))
        have l2 := lastD_lt hfl (c := c) (by omega)
        rw [mxF_succ]
        by_cases q : mxF (fun c => lastD (bsp n S c)) c < lastD (bsp n S c)
        · rw [if_pos q, if_pos ((nI_ltI (by omega) (by omega)).mpr q)]
        · rw [if_neg q, if_neg (fun z => q ((nI_ltI (by omega) (by omega)).mp z))]
      refine (show R (d + 1) 206 6 [some (.ref 76), some (.int (if nI (mxF (fun c => lastD (bsp n S c)) c) < nI (lastD (bsp n S c)) then nI (lastD (bsp n S c)) else nI (mxF (fun c => lastD (bsp n S c)) c))), some (.int (nI c + nI 1))] [] (spH h F2 Q2) _ from ?_)
      rw [e, nI_add]
      obtain ⟨fu, r2, h2, hrun, h', ⟨a1, a2, a3⟩, er, eh⟩ := ih (c + 1) (spH h F2 Q2) (hm.sp F2 Q2) (rows4.sp ⟨⟨F, hF⟩, ⟨Qf, hQ⟩, hr3, hr4⟩ F2 Q2) (by omega)
      exact ⟨fu, r2, h2, hrun, h', ⟨a1, (spH_frm F2 Q2).trans a2, a3⟩, er, eh⟩
theorem sp_MO_farthest (d : Nat) (hm : mCel h k fed pl le fi G z) (hn : n ≤ 5) (hn2 : 2 ≤ n) (h0 : G 0 = nI n) (hS : ∀ s, s < 32 → G (1 + s) = b2i (bt S s)) (hb : c120 n S) (hI : caI z) (hfl : flOK n S) (hr : rows4 h) : ∃ z' h', caZ n S z' ∧ mCel h' k fed pl le fi G z' ∧ frm2 h h' ∧ rows4 h' ∧ Cl (d + 8) 206 [.ref 76] h (some (.int (nI (farN n S)))) h' := by
  have kC9 := co_MO_farthest
  obtain ⟨z', h', hz, hm', hf, hcl⟩ := st_finds d hm hn hn2 h0 hS hb hI
  have ho := hm.1
  obtain ⟨h2, ⟨a1, a2, a3⟩, hcl2⟩ := Cl_ex (P := fun h2 => mCel h2 k fed pl le fi G z' ∧ frm2 h' h2 ∧ rows4 h2) (f := fun _ => some (.int (nI (farN n S)))) (g := fun h2 => h2) (d := d + 8) (av := [.ref 76]) (h := h) kC9 rfl rfl (by
    repeat (refine R_s kC9 rfl rfl ?_)
    refine R_cv kC9 rfl rfl rfl rfl ho (by decide) hcl ?_
    iterate 4 (refine R_s kC9 rfl rfl ?_)
    exact lp_farthest (d + 7) hn hn2 h0 hz hb hfl (cornS n S).length 0 h' hm' (hr.frm hf) (by omega))
  exact ⟨z', h2, hz, a1, hf.to2.trans a2, a3, hcl2⟩
theorem sp_MO_steps (d : Nat) (hm : mCel h k fed pl le fi G z) (hn : n ≤ 5) (hn2 : 2 ≤ n) (h0 : G 0 = nI n) (hS : ∀ s, s < 32 → G (1 + s) = b2i (bt S s)) (hb : c120 n S) (hI : caI z) (hfl : flOK n S) (hr : rows4 h) (v w : Int32) : ∃ z' h', caI z' ∧ mCel h' k fed pl le fi G z' ∧ frm2 h h' ∧ rows4 h' ∧ Cl (d + 9) 219 [.ref 76, .int v, .int w] h (some (.int (stepsR n S v w))) h' := by
  have kC9 := co_MO_steps
  obtain ⟨z1, h1, hz1, hm1, hf1, hcl1⟩ := sp_MO_isCorner d hm hn hn2 h0 hS hb hI v
  have ho := hm.1
  have ho1 := hm1.1
  have hl : (cornS n S).length ≤ 120 := by rw [cornS_len]; exact hb
  unfold stepsR
  cases hv : itI (cornS n S).length v with
  | false =>
    refine ⟨z1, h1, hz1.i hn, hm1, hf1.to2, hr.frm hf1, ?_⟩
    rw [Bool.false_and, if_neg (by decide)]
    refine Cl_of kC9 rfl rfl ?_
    repeat (refine R_s kC9 rfl rfl ?_)
    refine R_cv kC9 rfl rfl rfl rfl ho (by decide) hcl1 ?_
    refine ZB_eq kC9 rfl (fun _ => ?_) (fun q => by rw [hv] at q; cases q)
    repeat (refine R_s kC9 rfl rfl ?_)
    exact R_ri kC9 rfl ⟨rfl, rfl⟩
  | true =>
    obtain ⟨z2, h2, hz2, hm2, hf2, hcl2⟩ := sp_MO_isCorner d hm1 hn hn2 h0 hS hb (hz1.i hn) w
    have ho2 := hm2.1
    have head : ∀ (Q : Option Value → AH → Prop), (itI (cornS n S).length w = false → R (d + 9) 219 8 [some (.ref 76), some (.int v), some (.int w), none] [] h2 Q) → (itI (cornS n S).length w = true → R (d + 9) 219 10 [some (.ref 76), some (.int v), some (.int w), none] [] h2 Q) → R (d + 9) 219 0 [some (.ref 76), some (.int v), some (.int w), none] [] h Q := by
      intro Q kf kt
      repeat (refine R_s kC9 rfl rfl ?_)
      refine R_cv kC9 rfl rfl rfl rfl ho (by decide) hcl1 ?_
      refine ZB_eq kC9 rfl (fun q => by rw [hv] at q; cases q) (fun _ => ?_)
      repeat (refine R_s kC9 rfl rfl ?_)
      refine R_cv kC9 rfl rfl rfl rfl ho1 (by decide) hcl2 ?_
      exact ZB_ne kC9 rfl kt kf
    cases hw : itI (cornS n S).length w with
    | false =>
      refine ⟨z2, h2, hz2.i hn, hm2, (hf1.trans hf2).to2, (hr.frm hf1).frm hf2, ?_⟩
      rw [Bool.and_false, if_neg (by decide)]
      refine Cl_of kC9 rfl rfl (head _ (fun _ => ?_) (fun q => by rw [hw] at q; cases q))
      repeat (refine R_s kC9 rfl rfl ?_)
      exact R_ri kC9 rfl ⟨rfl, rfl⟩
    | true =>
      have hr2 := (hr.frm hf1).frm hf2
      obtain ⟨⟨F, hF⟩, ⟨Qf, hQ⟩, hr3, hr4⟩ := hr2
      obtain ⟨c, c1, c2, rfl⟩ := itI_of hv
      obtain ⟨o, o1, o2, rfl⟩ := itI_of hw
      obtain ⟨⟨F2, Q2⟩, hR, hcl⟩ := sp_MO_spreads (d + 8) hm2 hn hn2 h0 hz2 hb hfl hF hQ c1
      dsimp only at hR hcl
      refine ⟨z2, spH h2 F2 Q2, hz2.i hn, hm2.sp F2 Q2, (hf1.trans hf2).to2.trans (spH_frm F2 Q2), rows4.sp ⟨⟨F, hF⟩, ⟨Qf, hQ⟩, hr3, hr4⟩ F2 Q2, ?_⟩
      rw [Bool.and_true, if_pos rfl, nI_clamp c2, nI_clamp o2]
      refine Cl_of kC9 rfl rfl (head _ (fun q => by rw [hw] at q; cases q) (fun _ => ?_))
      repeat (refine R_s kC9 rfl rfl ?_)
      refine R_cv kC9 rfl rfl rfl rfl ho2 (by decide) hcl ?_
      repeat (refine R_s kC9 rfl rfl ?_)
      refine R_get kC9 rfl (show (spH h2 F2 Q2).2 76 = mob k fed pl le fi (nI z2.2.2.2.2.2.2) from ho2) rfl ?_
      repeat (refine R_s kC9 rfl rfl ?_)
      refine R_ild kC9 rfl (h := spH h2 F2 Q2) rfl (k := o) rfl (by omega) (by decide) ?_
      rw [hR.1 o o1]
      exact R_ri kC9 rfl ⟨rfl, rfl⟩
noncomputable def toldR (U : US) (v : Int32) : Int32 := if v = 0 then nI U.1 else if v = 1 then nI (els U.2.1).length else if v = 2 then nI (cornS U.1 U.2.1).length else if v = 3 then nI (farN U.1 U.2.1) else if v = 4 then nI (lineN U.2.2.1) else if v = 5 then nI U.2.2.2.1.length else if v = 6 then nI (havR U.1 U.2.1 (chM U.2.2.2.1) false (cornM U.1 U.2.1) 0 0) else if v = 7 then nI (havR U.1 U.2.1 (chM U.2.2.2.1) true (cornM U.1 U.2.1) 0 0) else -1
theorem sw8 {v : Int32} : v = 0 ∨ v = 1 ∨ v = 2 ∨ v = 3 ∨ v = 4 ∨ v = 5 ∨ v = 6 ∨ v = 7 ∨ ((v.toInt < 0 ∨ 7 < v.toInt) ∧ v ≠ 0 ∧ v ≠ 1 ∧ v ≠ 2 ∧ v ≠ 3 ∧ v ≠ 4 ∧ v ≠ 5 ∧ v ≠ 6 ∧ v ≠ 7) := by
  by_cases hr : 0 ≤ v.toInt ∧ v.toInt ≤ 7
  · obtain ⟨j, _, j2, _, rfl⟩ := rng_nI (a := 0) (b := 7) hr
    have : j = 0 ∨ j = 1 ∨ j = 2 ∨ j = 3 ∨ j = 4 ∨ j = 5 ∨ j = 6 ∨ j = 7 := by omega
    rcases this with rfl | rfl | rfl | rfl | rfl | rfl | rfl | rfl
    · exact Or.inl rfl
    · exact Or.inr (Or.inl rfl)
    · exact Or.inr (Or.inr (Or.inl rfl))
    · exact Or.inr (Or.inr (Or.inr (Or.inl rfl)))
    · exact Or.inr (Or.inr (Or.inr (Or.inr (Or.inl rfl))))
    · exact Or.inr (Or.inr (Or.inr (Or.inr (Or.inr (Or.inl rfl)))))
    · exact Or.inr (Or.inr (Or.inr (Or.inr (Or.inr (Or.inr (Or.inl rfl))))))
    · exact Or.inr (Or.inr (Or.inr (Or.inr (Or.inr (Or.inr (Or.inr (Or.inl rfl)))))))
  · refine Or.inr (Or.inr (Or.inr (Or.inr (Or.inr (Or.inr (Or.inr (Or.inr ⟨by omega, ?_, ?_, ?_, ?_, ?_, ?_, ?_, ?_⟩))))))) <;> (rintro rfl; exact hr (by decide))
theorem sp_MO_told (d : Nat) {U : US} (hm : mCel h k fed pl le fi G z) (hU : GU U G) (hr5 : RowsOK U) (hri : RowsIn U) (hF : Fam U.1 U.2.1) (hb : c120 U.1 U.2.1) (hI : caI z) (hfl : flOK U.1 U.2.1) (hr : rows4 h) (v : Int32) : ∃ z' h', caI z' ∧ mCel h' k fed pl le fi G z' ∧ frm2 h h' ∧ rows4 h' ∧ Cl (d + 9) 211 [.ref 76, .int v] h (some (.int (toldR U v))) h' := by
  have kC9 := co_MO_told
  have ho := hm.1
  have hg := hm.2.1
  have hn := hF.2.1
  have hn2 := hF.1
  have h0 := hU.1
  have hS := hU.2.1
  have hb0 := hF.b0
  have stay : ∀ {r : Int32}, Cl (d + 9) 211 [.ref 76, .int v] h (some (.int r)) h → ∃ z' h', caI z' ∧ mCel h' k fed pl le fi G z' ∧ frm2 h h' ∧ rows4 h' ∧ Cl (d + 9) 211 [.ref 76, .int v] h (some (.int r)) h' := fun q => ⟨z, h, hI, hm, frm2.rfl, hr, q⟩
  rcases sw8 (v := v) with e | e | e | e | e | e | e | e | e
  · subst e
    refine stay (Cl_of kC9 rfl rfl ?_)
    repeat (refine R_s kC9 rfl rfl ?_)
    refine R_sw kC9 rfl (t := 2) rfl ?_
    repeat (refine R_s kC9 rfl rfl ?_)
    refine R_get kC9 rfl (ho) rfl ?_
    repeat (refine R_s kC9 rfl rfl ?_)
    refine R_ild kC9 rfl (hg) (rfl) (by decide) (by decide) ?_
    rw [h0]
    exact R_ri kC9 rfl ⟨rfl, rfl⟩
  · subst e
    refine stay (Cl_of kC9 rfl rfl ?_)
    repeat (refine R_s kC9 rfl rfl ?_)
    refine R_sw kC9 rfl (t := 7) rfl ?_
    repeat (refine R_s kC9 rfl rfl ?_)
    refine R_cv kC9 rfl rfl rfl rfl (ho) (by decide) (sp_MO_sets (d + 8) ho hg hS hb0) ?_
    exact R_ri kC9 rfl ⟨rfl, rfl⟩
  · subst e
    obtain ⟨z', h', hz, hm', hf, hcl⟩ := sp_MO_manyCorners d hm hn hn2 h0 hS hb hI
    refine ⟨z', h', hz.i hn, hm', hf.to2, hr.frm hf, Cl_of kC9 rfl rfl ?_⟩
    repeat (refine R_s kC9 rfl rfl ?_)
    refine R_sw kC9 rfl (t := 10) rfl ?_
    repeat (refine R_s kC9 rfl rfl ?_)
    refine R_cv kC9 rfl rfl rfl rfl ho (by decide) hcl ?_
    exact R_ri kC9 rfl ⟨rfl, rfl⟩
  · subst e
    obtain ⟨z', h', hz, hm', hf, hr', hcl⟩ := sp_MO_farthest d hm hn hn2 h0 hS hb hI hfl hr
    refine ⟨z', h', hz.i hn, hm', hf, hr', Cl_of kC9 rfl rfl ?_⟩
    repeat (refine R_s kC9 rfl rfl ?_)
    refine R_sw kC9 rfl (t := 13) rfl ?_
    repeat (refine R_s kC9 rfl rfl ?_)
    refine R_cv kC9 rfl rfl rfl rfl ho (by decide) hcl ?_
    exact R_ri kC9 rfl ⟨rfl, rfl⟩
  · subst e
    refine stay (Cl_of kC9 rfl rfl ?_)
    repeat (refine R_s kC9 rfl rfl ?_)
    refine R_sw kC9 rfl (t := 16) rfl ?_
    repeat (refine R_s kC9 rfl rfl ?_)
    refine R_cv kC9 rfl rfl rfl rfl (ho) (by decide) (sp_MO_lines (d + 8) ho hg hU.2.2.1) ?_
    exact R_ri kC9 rfl ⟨rfl, rfl⟩
  · subst e
    refine stay (Cl_of kC9 rfl rfl ?_)
    repeat (refine R_s kC9 rfl rfl ?_)
    refine R_sw kC9 rfl (t := 19) rfl ?_
    repeat (refine R_s kC9 rfl rfl ?_)
    refine R_get kC9 rfl (ho) rfl ?_
    repeat (refine R_s kC9 rfl rfl ?_)
    refine R_ild kC9 rfl (hg) (rfl) (by decide) (by decide) ?_
    rw [hU.2.2.2.1.1]
    exact R_ri kC9 rfl ⟨rfl, rfl⟩
  · subst e
    obtain ⟨z', h', hz, hm', hf, hcl⟩ := sp_MO_having d hm hn hn2 h0 hS hb hI (chM U.2.2.2.1) false
    refine ⟨z', h', hz.i hn, hm', hf.to2, hr.frm hf, Cl_of kC9 rfl rfl ?_⟩
    repeat (refine R_s kC9 rfl rfl ?_)
    refine R_sw kC9 rfl (t := 24) rfl ?_
    repeat (refine R_s kC9 rfl rfl ?_)
    refine R_cv kC9 rfl rfl rfl rfl (ho) (by decide) (sp_MO_chosenBits (d + 8) ho hg hU.2.2.2.1.1 hU.2.2.2.1.2 hr5.1 hri.1) ?_
    repeat (refine R_s kC9 rfl rfl ?_)
    refine R_ne kC9 rfl (u := 6) (v := 7) rfl rfl (by decide) (by decide) (fun _ => ?_) (fun q => absurd q (by decide))
    repeat (refine R_s kC9 rfl rfl ?_)
    refine R_cv kC9 rfl rfl rfl rfl ho (by decide) hcl ?_
    exact R_ri kC9 rfl ⟨rfl, rfl⟩
  · subst e
    obtain ⟨z', h', hz, hm', hf, hcl⟩ := sp_MO_having d hm hn hn2 h0 hS hb hI (chM U.2.2.2.1) true
    refine ⟨z', h', hz.i hn, hm', hf.to2, hr.frm hf, Cl_of kC9 rfl rfl ?_⟩
    repeat (refine R_s kC9 rfl rfl ?_)
    refine R_sw kC9 rfl (t := 24) rfl ?_
    repeat (refine R_s kC9 rfl rfl ?_)
    refine R_cv kC9 rfl rfl rfl rfl (ho) (by decide) (sp_MO_chosenBits (d + 8) ho hg hU.2.2.2.1.1 hU.2.2.2.1.2 hr5.1 hri.1) ?_
    repeat (refine R_s kC9 rfl rfl ?_)
    refine R_ne kC9 rfl (u := 7) (v := 7) rfl rfl (by decide) (by decide) (fun q => absurd rfl q) (fun _ => ?_)
    repeat (refine R_s kC9 rfl rfl ?_)
    refine R_g kC9 rfl ?_
    refine R_cv kC9 rfl rfl rfl rfl ho (by decide) hcl ?_
    exact R_ri kC9 rfl ⟨rfl, rfl⟩
  · refine stay (Cl_of kC9 rfl rfl ?_)
    unfold toldR
    rw [if_neg e.2.1, if_neg e.2.2.1, if_neg e.2.2.2.1, if_neg e.2.2.2.2.1, if_neg e.2.2.2.2.2.1, if_neg e.2.2.2.2.2.2.1, if_neg e.2.2.2.2.2.2.2.1, if_neg e.2.2.2.2.2.2.2.2]
    repeat (refine R_s kC9 rfl rfl ?_)
    refine R_sw kC9 rfl (t := 35) (by rw [if_pos (by omega)]; rfl) ?_
    repeat (refine R_s kC9 rfl rfl ?_)
    exact R_ri kC9 rfl ⟨rfl, rfl⟩
end
