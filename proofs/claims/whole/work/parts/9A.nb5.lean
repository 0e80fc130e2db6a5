/-! THE CLASS, 30: NestedBodies: rows, the image, tapes -/
section
variable {h h' : AH} {U K V : US} {im : Bool} {tx : List Nat} {T : TPS}
theorem rg4 {v : Int32} : (0 ≤ v.toInt ∧ v.toInt ≤ 4) ↔ ¬ v < 0 ∧ v ≤ nI 4 := by
  rw [tI_lt, tI_le, tI_0, show (nI 4).toInt = 4 by decide]
  omega
theorem rg99 {v : Int32} : (0 ≤ v.toInt ∧ v.toInt ≤ 99) ↔ ¬ v < 0 ∧ v ≤ nI 99 := by
  rw [tI_lt, tI_le, tI_0, show (nI 99).toInt = 99 by decide]
  omega
theorem rg999 {v : Int32} : (0 ≤ v.toInt ∧ v.toInt ≤ 999) ↔ ¬ v < 0 ∧ v ≤ nI 999 := by
  rw [tI_lt, tI_le, tI_0, show (nI 999).toInt = 999 by decide]
  omega
theorem nb_see (d : Nat) (hI : NBI h U K im tx T) (v w : Int32) : ∃ h', NQ h (specSee U v w).2 K im tx T h' ∧ Cl (d + 2) 116 [.ref 3, .int v, .int w] h (some (.int (specSee U v w).1)) h' := by
  have kC9 := co_NB_see
  refine Cl_eH kC9 rfl rfl ?_
  have hR := hI.st.2.2.2.2.1
  unfold specSee
  repeat (refine R_s kC9 rfl rfl ?_)
  refine Rr_ne kC9 rfl (fun hd => ?_) (fun hd => ?_)
  · rw [if_neg hd]
    repeat (refine R_s kC9 rfl rfl ?_)
    refine Zr_lt kC9 rfl (fun hc => ?_) (fun hc => ?_)
    · rw [if_neg (fun z => (rg4.mp z).1 hc)]
      repeat (refine R_s kC9 rfl rfl ?_)
      exact R_ri kC9 rfl ⟨rfl, NQ.rfl' hI⟩
    · repeat (refine R_s kC9 rfl rfl ?_)
      refine Rr_le kC9 rfl (fun he => ?_) (fun he => ?_)
      · rw [if_pos (rg4.mpr ⟨hc, he⟩)]
        repeat (refine R_s kC9 rfl rfl ?_)
        refine Zr_lt kC9 rfl (fun hf => ?_) (fun hf => ?_)
        · rw [if_neg (fun z => (rg999.mp z).1 hf)]
          repeat (refine R_s kC9 rfl rfl ?_)
          exact R_ri kC9 rfl ⟨rfl, NQ.rfl' hI⟩
        · repeat (refine R_s kC9 rfl rfl ?_)
          refine Rr_le kC9 rfl (fun hg => ?_) (fun hg => ?_)
          · rw [if_pos (rg999.mpr ⟨hf, hg⟩)]
            repeat (refine R_s kC9 rfl rfl ?_)
            refine R_get kC9 rfl (hI.ob) rfl ?_
            refine R_get kC9 rfl (hI.st.2.1) rfl ?_
            refine R_cv kC9 rfl rfl rfl rfl hR.2.2.2.1 (by omega) (cl_RO_isFull (d + 1) hR) ?_
            refine ZB_eq kC9 rfl (fun hh => ?_) (fun hh => ?_)
            · rw [if_neg (of_decide_eq_false hh)]
              obtain ⟨h2, ⟨x2, R2⟩, c2⟩ := cl_RO_put d hR (by have := hR.1; have := of_decide_eq_false hh; omega) v w
              repeat (refine R_s kC9 rfl rfl ?_)
              refine R_get kC9 rfl (hI.ob) rfl ?_
              refine R_get kC9 rfl (hI.st.2.1) rfl ?_
              repeat (refine R_s kC9 rfl rfl ?_)
              refine R_cv kC9 rfl rfl rfl rfl hR.2.2.2.1 (by omega) c2 ?_
              exact R_ri kC9 rfl ⟨rfl, x2.mono (by omega) (by omega), hI.set (x2.mono (by omega) (by omega)) (hI.st.see x2 R2)⟩
            · rw [if_pos (of_decide_eq_true hh)]
              repeat (refine R_s kC9 rfl rfl ?_)
              refine R_g kC9 rfl ?_
              exact R_ri kC9 rfl ⟨rfl, NQ.rfl' hI⟩
          · rw [if_neg (fun z => hg (rg999.mp z).2)]
            repeat (refine R_s kC9 rfl rfl ?_)
            exact R_ri kC9 rfl ⟨rfl, NQ.rfl' hI⟩
      · rw [if_neg (fun z => he (rg4.mp z).2)]
        repeat (refine R_s kC9 rfl rfl ?_)
        exact R_ri kC9 rfl ⟨rfl, NQ.rfl' hI⟩
  · rw [if_pos hd]
    obtain ⟨h2, ⟨x2, R2⟩, c2⟩ := cl_RO_empty (d + 1) hR
    repeat (refine R_s kC9 rfl rfl ?_)
    refine R_get kC9 rfl (hI.ob) rfl ?_
    refine R_get kC9 rfl (hI.st.2.1) rfl ?_
    refine R_cv kC9 rfl rfl rfl rfl hR.2.2.2.1 (by omega) c2 ?_
    exact R_ri kC9 rfl ⟨rfl, x2.mono (by omega) (by omega), hI.set (x2.mono (by omega) (by omega)) (hI.st.see x2 R2)⟩
theorem nb_book (d : Nat) (hI : NBI h U K im tx T) (hn : U.1 ≤ 5) (v w : Int32) : ∃ h', NQ h (specBook U v w).2 K im tx T h' ∧ Cl (d + 2) 122 [.ref 3, .int v, .int w] h (some (.int (specBook U v w).1)) h' := by
  have kC9 := co_NB_book
  refine Cl_eH kC9 rfl rfl ?_
  have hR := hI.st.2.2.2.2.2.2
  unfold specBook
  repeat (refine R_s kC9 rfl rfl ?_)
  refine Rr_ne kC9 rfl (fun hd => ?_) (fun hd => ?_)
  · rw [if_neg hd]
    repeat (refine R_s kC9 rfl rfl ?_)
    refine R_get kC9 rfl (hI.ob) rfl ?_
    refine R_get kC9 rfl (hI.st.2.1) rfl ?_
    repeat (refine R_s kC9 rfl rfl ?_)
    refine R_cv kC9 rfl rfl rfl rfl hI.st.2.2.1.2 (by omega) (sp_FA_isSet d hI.st.2.2.1 hn v) ?_
    refine ZB_ne kC9 rfl (fun he => ?_) (fun he => ?_)
    · rw [if_pos he]
      have i0 : w.toInt = 0 → w = 0 := fun z => Int32.toInt_inj.mp (by rw [z]; rfl)
      have i1 : w.toInt = 1 → w = nI 1 := fun z => Int32.toInt_inj.mp (by rw [z]; rfl)
      have body : 0 ≤ w.toInt ∧ w.toInt ≤ 1 → R (d + 2) 122 23 [some (.ref 3), some (.int v), some (.int w)] [] h (fun r2 h' => r2 = some (.int (if 0 ≤ w.toInt ∧ w.toInt ≤ 1 then (if U.2.2.2.2.2.2.length = 8 then (-4, U) else (nI (U.2.2.2.2.2.2.length + 1), ((U.1, U.2.1, U.2.2.1, U.2.2.2.1, U.2.2.2.2.1, U.2.2.2.2.2.1, U.2.2.2.2.2.2 ++ [(v, w)]) : US))) else (-2, U)).1) ∧ NQ h (if 0 ≤ w.toInt ∧ w.toInt ≤ 1 then (if U.2.2.2.2.2.2.length = 8 then (-4, U) else (nI (U.2.2.2.2.2.2.length + 1), ((U.1, U.2.1, U.2.2.1, U.2.2.2.1, U.2.2.2.2.1, U.2.2.2.2.2.1, U.2.2.2.2.2.2 ++ [(v, w)]) : US))) else (-2, U)).2 K im tx T h') := by
        intro hw
        rw [if_pos hw]
        repeat (refine R_s kC9 rfl rfl ?_)
        refine R_get kC9 rfl (hI.ob) rfl ?_
        refine R_get kC9 rfl (hI.st.2.1) rfl ?_
        refine R_cv kC9 rfl rfl rfl rfl hR.2.2.2.1 (by omega) (cl_RO_isFull (d + 1) hR) ?_
        refine ZB_eq kC9 rfl (fun hh => ?_) (fun hh => ?_)
        · rw [if_neg (of_decide_eq_false hh)]
          obtain ⟨h2, ⟨x2, R2⟩, c2⟩ := cl_RO_put d hR (by have := hR.1; have := of_decide_eq_false hh; omega) v w
          repeat (refine R_s kC9 rfl rfl ?_)
          refine R_get kC9 rfl (hI.ob) rfl ?_
          refine R_get kC9 rfl (hI.st.2.1) rfl ?_
          repeat (refine R_s kC9 rfl rfl ?_)
          refine R_cv kC9 rfl rfl rfl rfl hR.2.2.2.1 (by omega) c2 ?_
          exact R_ri kC9 rfl ⟨rfl, x2.mono (by omega) (by omega), hI.set (x2.mono (by omega) (by omega)) (hI.st.bok x2 R2)⟩
        · rw [if_pos (of_decide_eq_true hh)]
          repeat (refine R_s kC9 rfl rfl ?_)
          refine R_g kC9 rfl ?_
          exact R_ri kC9 rfl ⟨rfl, NQ.rfl' hI⟩
      repeat (refine R_s kC9 rfl rfl ?_)
      refine Zr_eq kC9 rfl (fun hf => ?_) (fun hf => ?_)
      · exact body (by rw [hf, tI_0]; omega)
      · repeat (refine R_s kC9 rfl rfl ?_)
        refine Rr_eq kC9 rfl (fun hg => ?_) (fun hg => ?_)
        · exact body (by rw [hg, tI_1]; omega)
        · rw [if_neg (fun z => by
            have : w.toInt = 0 ∨ w.toInt = 1 := by omega
            rcases this with z | z
            · exact hf (i0 z)
            · exact hg (i1 z))]
          repeat (refine R_s kC9 rfl rfl ?_)
          exact R_ri kC9 rfl ⟨rfl, NQ.rfl' hI⟩
    · rw [if_neg (by rw [he]; decide)]
      repeat (refine R_s kC9 rfl rfl ?_)
      exact R_ri kC9 rfl ⟨rfl, NQ.rfl' hI⟩
  · rw [if_pos hd]
    obtain ⟨h2, ⟨x2, R2⟩, c2⟩ := cl_RO_empty (d + 1) hR
    repeat (refine R_s kC9 rfl rfl ?_)
    refine R_get kC9 rfl (hI.ob) rfl ?_
    refine R_get kC9 rfl (hI.st.2.1) rfl ?_
    refine R_cv kC9 rfl rfl rfl rfl hR.2.2.2.1 (by omega) c2 ?_
    exact R_ri kC9 rfl ⟨rfl, x2.mono (by omega) (by omega), hI.set (x2.mono (by omega) (by omega)) (hI.st.bok x2 R2)⟩
theorem nb_event (d : Nat) (hI : NBI h U K im tx T) (hn : U.1 ≤ 5) (v w : Int32) : ∃ h', NQ h (specEvent U v w).2 K im tx T h' ∧ Cl (d + 2) 120 [.ref 3, .int v, .int w] h (some (.int (specEvent U v w).1)) h' := by
  have kC9 := co_NB_event
  refine Cl_eH kC9 rfl rfl ?_
  have hR := hI.st.2.2.2.2.2.1
  unfold specEvent
  repeat (refine R_s kC9 rfl rfl ?_)
  refine Rr_ne kC9 rfl (fun hd => ?_) (fun hd => ?_)
  · rw [if_neg hd]
    have put : R (d + 2) 120 32 [some (.ref 3), some (.int v), some (.int w)] [] h (fun r2 h' => r2 = some (.int (if U.2.2.2.2.2.1.length = 8 then (-4, U) else (nI (U.2.2.2.2.2.1.length + 1), ((U.1, U.2.1, U.2.2.1, U.2.2.2.1, U.2.2.2.2.1, U.2.2.2.2.2.1 ++ [(v, w)], U.2.2.2.2.2.2) : US))).1) ∧ NQ h (if U.2.2.2.2.2.1.length = 8 then (-4, U) else (nI (U.2.2.2.2.2.1.length + 1), ((U.1, U.2.1, U.2.2.1, U.2.2.2.1, U.2.2.2.2.1, U.2.2.2.2.2.1 ++ [(v, w)], U.2.2.2.2.2.2) : US))).2 K im tx T h') := by
      repeat (refine R_s kC9 rfl rfl ?_)
      refine R_get kC9 rfl (hI.ob) rfl ?_
      refine R_get kC9 rfl (hI.st.2.1) rfl ?_
      refine R_cv kC9 rfl rfl rfl rfl hR.2.2.2.1 (by omega) (cl_RO_isFull (d + 1) hR) ?_
      refine ZB_eq kC9 rfl (fun hh => ?_) (fun hh => ?_)
      · rw [if_neg (of_decide_eq_false hh)]
        obtain ⟨h2, ⟨x2, R2⟩, c2⟩ := cl_RO_put d hR (by have := hR.1; have := of_decide_eq_false hh; omega) v w
        repeat (refine R_s kC9 rfl rfl ?_)
        refine R_get kC9 rfl (hI.ob) rfl ?_
        refine R_get kC9 rfl (hI.st.2.1) rfl ?_
        repeat (refine R_s kC9 rfl rfl ?_)
        refine R_cv kC9 rfl rfl rfl rfl hR.2.2.2.1 (by omega) c2 ?_
        exact R_ri kC9 rfl ⟨rfl, x2.mono (by omega) (by omega), hI.set (x2.mono (by omega) (by omega)) (hI.st.evt x2 R2)⟩
      · rw [if_pos (of_decide_eq_true hh)]
        repeat (refine R_s kC9 rfl rfl ?_)
        refine R_g kC9 rfl ?_
        exact R_ri kC9 rfl ⟨rfl, NQ.rfl' hI⟩
    repeat (refine R_s kC9 rfl rfl ?_)
    rcases sw04 (v := v) with rfl | rfl | rfl | rfl | ⟨ho, n0, n1, n2, n3⟩
    · refine R_sw kC9 rfl (t := 10) rfl ?_
      repeat (refine R_s kC9 rfl rfl ?_)
      refine R_get kC9 rfl (hI.ob) rfl ?_
      refine R_get kC9 rfl (hI.st.2.1) rfl ?_
      repeat (refine R_s kC9 rfl rfl ?_)
      refine R_cv kC9 rfl rfl rfl rfl hI.st.2.2.1.2 (by omega) (sp_FA_isSet d hI.st.2.2.1 hn w) ?_
      refine ZB_ne kC9 rfl (fun he => ?_) (fun he => ?_)
      · have e9 : evOk U.1 0 w = true := by unfold evOk; rw [he]; rfl
        rw [if_pos e9, if_neg (fun z => absurd z.1 (by decide))]
        exact put
      · have e9 : evOk U.1 0 w = false := by unfold evOk; rw [he]; rfl
        rw [e9, if_neg (by decide)]
        repeat (refine R_s kC9 rfl rfl ?_)
        exact R_ri kC9 rfl ⟨rfl, NQ.rfl' hI⟩
    · refine R_sw kC9 rfl (t := 10) rfl ?_
      repeat (refine R_s kC9 rfl rfl ?_)
      refine R_get kC9 rfl (hI.ob) rfl ?_
      refine R_get kC9 rfl (hI.st.2.1) rfl ?_
      repeat (refine R_s kC9 rfl rfl ?_)
      refine R_cv kC9 rfl rfl rfl rfl hI.st.2.2.1.2 (by omega) (sp_FA_isSet d hI.st.2.2.1 hn w) ?_
      refine ZB_ne kC9 rfl (fun he => ?_) (fun he => ?_)
      · have e9 : evOk U.1 1 w = true := by unfold evOk; rw [he]; rfl
        rw [if_pos e9, if_neg (fun z => absurd z.1 (by decide))]
        exact put
      · have e9 : evOk U.1 1 w = false := by unfold evOk; rw [he]; rfl
        rw [e9, if_neg (by decide)]
        repeat (refine R_s kC9 rfl rfl ?_)
        exact R_ri kC9 rfl ⟨rfl, NQ.rfl' hI⟩
    · refine R_sw kC9 rfl (t := 18) rfl ?_
      repeat (refine R_s kC9 rfl rfl ?_)
      refine R_cs kC9 rfl rfl rfl rfl (sp_NB_isKind (d + 1) w) ?_
      have e8 : evOk U.1 2 w = decide (0 ≤ w.toInt ∧ w.toInt ≤ 6) := by
        unfold evOk
        rw [show decide (0 ≤ (2 : Int32).toInt ∧ (2 : Int32).toInt ≤ 3) = true by decide, show decide ((2 : Int32).toInt < 2) = false by decide, show decide ((2 : Int32) = 2) = true by decide]
        simp
      refine ZB_ne kC9 rfl (fun he => ?_) (fun he => ?_)
      · rw [if_pos (e8.trans he), if_neg (fun z => absurd z.1 (by decide))]
        exact put
      · rw [e8, he, if_neg (by decide)]
        repeat (refine R_s kC9 rfl rfl ?_)
        exact R_ri kC9 rfl ⟨rfl, NQ.rfl' hI⟩
    · refine R_sw kC9 rfl (t := 23) rfl ?_
      have e9 : evOk U.1 3 w = true := by
        unfold evOk
        rw [show decide (0 ≤ (3 : Int32).toInt ∧ (3 : Int32).toInt ≤ 3) = true by decide, show decide ((3 : Int32).toInt < 2) = false by decide, show decide ((3 : Int32) = 2) = false by decide]
        rfl
      rw [if_pos e9]
      repeat (refine R_s kC9 rfl rfl ?_)
      refine Zr_lt kC9 rfl (fun hc => ?_) (fun hc => ?_)
      · rw [if_pos ⟨rfl, fun z => (rg99.mp z).1 hc⟩]
        repeat (refine R_s kC9 rfl rfl ?_)
        exact R_ri kC9 rfl ⟨rfl, NQ.rfl' hI⟩
      · repeat (refine R_s kC9 rfl rfl ?_)
        refine Rr_le kC9 rfl (fun he => ?_) (fun he => ?_)
        · rw [if_neg (fun z => z.2 (rg99.mpr ⟨hc, he⟩))]
          exact put
        · rw [if_pos ⟨rfl, fun z => he (rg99.mp z).2⟩]
          repeat (refine R_s kC9 rfl rfl ?_)
          exact R_ri kC9 rfl ⟨rfl, NQ.rfl' hI⟩
    · refine R_sw kC9 rfl (t := 30) (by rw [if_pos ho]; rfl) ?_
      have e9 : evOk U.1 v w = false := by unfold evOk; rw [decide_eq_false (show ¬ (0 ≤ v.toInt ∧ v.toInt ≤ 3) by omega)]; rfl
      rw [e9, if_neg (by decide)]
      repeat (refine R_s kC9 rfl rfl ?_)
      exact R_ri kC9 rfl ⟨rfl, NQ.rfl' hI⟩
  · rw [if_pos hd]
    obtain ⟨h2, ⟨x2, R2⟩, c2⟩ := cl_RO_empty (d + 1) hR
    repeat (refine R_s kC9 rfl rfl ?_)
    refine R_get kC9 rfl (hI.ob) rfl ?_
    refine R_get kC9 rfl (hI.st.2.1) rfl ?_
    refine R_cv kC9 rfl rfl rfl rfl hR.2.2.2.1 (by omega) c2 ?_
    exact R_ri kC9 rfl ⟨rfl, x2.mono (by omega) (by omega), hI.set (x2.mono (by omega) (by omega)) (hI.st.evt x2 R2)⟩
theorem lc_looked (d : Nat) (hI : NBI h U K im tx T) (hF : Fam U.1 U.2.1) (hin : ∀ x ∈ U.2.2.2.2.2.2, ∃ s, 1 ≤ s ∧ s < 32 ∧ x.1 = nI s ∧ (x.2 = nI 0 ∨ x.2 = nI 1)) : ∀ (m i : Nat) (w : Option Value), i + m = U.2.2.2.2.2.2.length → (w = none ∨ ∃ x : Int32, w = some (.int x)) → R (d + 3) 123 2 [some (.ref 3), some (.int (nI i)), w] [] h (fun r2 h2 => r2 = some (.int (lkF U.2.1 (U.2.2.2.2.2.2.drop i) i)) ∧ h2 = h) := by
  have kC9 := co_NB_looked
  have hn := hF.2.1
  have hR := hI.st.2.2.2.2.2.2
  have hle := hR.1
  intro m
  induction m with
  | zero =>
    intro i w hi hw
    rw [List.drop_eq_nil_of_le (by omega)]
    repeat (refine R_s kC9 rfl rfl ?_)
    refine R_get kC9 rfl (hI.ob) rfl ?_
    refine R_get kC9 rfl (hI.st.2.1) rfl ?_
    refine R_get kC9 rfl (hR.2.2.2.1) rfl ?_
    refine R_ge kC9 rfl (rfl) (rfl) (by omega) (by omega) (fun hc => ?_) (fun hc => ?_)
    · repeat (refine R_s kC9 rfl rfl ?_)
      exact R_ri kC9 rfl ⟨rfl, rfl⟩
    · omega
  | succ m ih =>
    intro i w hi hw
    obtain ⟨x, hx⟩ : ∃ x, U.2.2.2.2.2.2[i]? = some x := ⟨_, List.getElem?_eq_getElem (by omega)⟩
    obtain ⟨s, s1, s2, s3, s4⟩ := hin x (List.mem_of_getElem? hx)
    rw [drop_cons hx, lkF_cons, s3, nI_clamp (by omega)]
    have hh : inF U.1 U.2.1 (nI s) = bt U.2.1 s := by
      rw [inF_nI (by omega)]
      cases hb : bt U.2.1 s with
      | false => rw [Bool.and_false]
      | true => rw [Bool.and_true]; exact decide_eq_true (hF.2.2.1 s s2 hb)
    have body : ∀ bb : Bool, x.2 = b2i bb → R (d + 3) 123 19 [some (.ref 3), some (.int (nI i)), some (.int (b2i bb))] [] h (fun r2 h2 => r2 = some (.int (if b2i (bt U.2.1 s) = x.2 then lkF U.2.1 (U.2.2.2.2.2.2.drop (i + 1)) (i + 1) else nI i)) ∧ h2 = h) := by
      intro bb hbb
      repeat (refine R_s kC9 rfl rfl ?_)
      refine R_get kC9 rfl (hI.ob) rfl ?_
      refine R_get kC9 rfl (hI.st.2.1) rfl ?_
      repeat (refine R_s kC9 rfl rfl ?_)
      refine R_get kC9 rfl (hI.ob) rfl ?_
      refine R_get kC9 rfl (hI.st.2.1) rfl ?_
      repeat (refine R_s kC9 rfl rfl ?_)
      refine R_cv kC9 rfl rfl rfl rfl hR.2.2.2.1 (by omega) (cl_RO_firstAt (d + 2) hR hx) ?_
      rw [s3]
      refine R_cv kC9 rfl rfl rfl rfl hI.st.2.2.1.2 (by omega) (sp_FA_holds d hI.st.2.2.1 hn (nI s)) ?_
      rw [hh]
      repeat (refine R_s kC9 rfl rfl ?_)
      refine Rr_eq kC9 rfl (fun he => ?_) (fun he => ?_)
      · rw [if_pos (he.trans hbb.symm)]
        repeat (refine R_s kC9 rfl rfl ?_)
        refine R_g kC9 rfl ?_
        refine (show R (d + 3) 123 2 [some (.ref 3), some (.int (nI i + nI 1)), some (.int (b2i bb))] [] h _ from ?_)
        rw [nI_add]
        exact ih (i + 1) _ (by omega) (Or.inr ⟨_, rfl⟩)
      · rw [if_neg (fun z => he (z.trans hbb))]
        repeat (refine R_s kC9 rfl rfl ?_)
        exact R_ri kC9 rfl ⟨rfl, rfl⟩
    have go : R (d + 3) 123 8 [some (.ref 3), some (.int (nI i)), w] [] h (fun r2 h2 => r2 = some (.int (if b2i (bt U.2.1 s) = x.2 then lkF U.2.1 (U.2.2.2.2.2.2.drop (i + 1)) (i + 1) else nI i)) ∧ h2 = h) := by
      repeat (refine R_s kC9 rfl rfl ?_)
      refine R_get kC9 rfl (hI.ob) rfl ?_
      refine R_get kC9 rfl (hI.st.2.1) rfl ?_
      repeat (refine R_s kC9 rfl rfl ?_)
      refine R_cv kC9 rfl rfl rfl rfl hR.2.2.2.1 (by omega) (cl_RO_secondAt (d + 2) hR hx) ?_
      repeat (refine R_s kC9 rfl rfl ?_)
      rcases s4 with s4 | s4
      · have b9 := body false s4
        rw [s4] at b9 ⊢
        refine Rr_ne kC9 rfl (fun _ => ?_) (fun z => absurd z (by decide))
        iterate 2 (refine R_s kC9 rfl rfl ?_)
        exact b9
      · have b9 := body true s4
        rw [s4] at b9 ⊢
        refine Rr_ne kC9 rfl (fun z => absurd rfl z) (fun _ => ?_)
        iterate 1 (refine R_s kC9 rfl rfl ?_)
        refine R_g kC9 rfl ?_
        iterate 1 (refine R_s kC9 rfl rfl ?_)
        exact b9
    repeat (refine R_s kC9 rfl rfl ?_)
    refine R_get kC9 rfl (hI.ob) rfl ?_
    refine R_get kC9 rfl (hI.st.2.1) rfl ?_
    refine R_get kC9 rfl (hR.2.2.2.1) rfl ?_
    refine R_ge kC9 rfl (rfl) (rfl) (by omega) (by omega) (fun hc => ?_) (fun hc => ?_)
    · omega
    · exact go
theorem nb_looked (d : Nat) (hI : NBI h U K im tx T) (hF : Fam U.1 U.2.1) (hin : ∀ x ∈ U.2.2.2.2.2.2, ∃ s, 1 ≤ s ∧ s < 32 ∧ x.1 = nI s ∧ (x.2 = nI 0 ∨ x.2 = nI 1)) : Cl (d + 3) 123 [.ref 3] h (some (.int (lkF U.2.1 U.2.2.2.2.2.2 0))) h := by
  have kC9 := co_NB_looked
  refine Cl_of kC9 rfl rfl ?_
  iterate 2 (refine R_s kC9 rfl rfl ?_)
  exact lc_looked d hI hF hin _ 0 none (Nat.zero_add _) (Or.inl rfl)
theorem nb_image (d : Nat) (hI : NBI h U K im tx T) : ∃ h', NQ h U U true tx T h' ∧ Cl (d + 3) 125 [.ref 3] h (some (.int (nI (els U.2.1).length))) h' := by
  have kC9 := co_NB_image
  refine Cl_eH kC9 rfl rfl ?_
  obtain ⟨h2, ⟨x2, S2⟩, c2⟩ := cl_SE_copy d hI.kp hI.st (by omega)
  have I2 := hI.keep x2 S2
  repeat (refine R_s kC9 rfl rfl ?_)
  refine R_get kC9 rfl (hI.ob) rfl ?_
  repeat (refine R_s kC9 rfl rfl ?_)
  refine R_get kC9 rfl (hI.ob) rfl ?_
  refine R_cv kC9 rfl rfl rfl rfl hI.kp.2.1 (by omega) c2 ?_
  repeat (refine R_s kC9 rfl rfl ?_)
  refine R_put kC9 rfl I2.ob (by omega) (Nat.le_of_ble_eq_true rfl) rfl ?_
  have I3 := I2.obj true
  repeat (refine R_s kC9 rfl rfl ?_)
  refine R_get kC9 rfl I3.ob rfl ?_
  refine R_get kC9 rfl I3.st.2.1 rfl ?_
  refine R_cv kC9 rfl rfl rfl rfl I3.st.2.2.1.2 (by omega) (sp_FA_size (d + 1) I3.st.2.2.1) ?_
  exact R_ri kC9 rfl ⟨rfl, (x2.mono (by omega) (by omega)).up _ (by omega) (by omega), I3⟩
theorem nb_undo0 (d : Nat) (hI : NBI h U K false tx T) : Cl d 126 [.ref 3] h (some (.int (-3))) h := by
  have kC9 := co_NB_undo
  refine Cl_of kC9 rfl rfl ?_
  repeat (refine R_s kC9 rfl rfl ?_)
  refine R_get kC9 rfl (hI.ob) rfl ?_
  refine ZB_ne kC9 rfl (fun z => by cases z) (fun _ => ?_)
  repeat (refine R_s kC9 rfl rfl ?_)
  exact R_ri kC9 rfl ⟨rfl, rfl⟩
theorem nb_undo1 (d : Nat) (hI : NBI h U K true tx T) : ∃ h', NQ h K K true tx T h' ∧ Cl (d + 3) 126 [.ref 3] h (some (.int (nI (els K.2.1).length))) h' := by
  have kC9 := co_NB_undo
  refine Cl_eH kC9 rfl rfl ?_
  obtain ⟨h2, ⟨x2, S2⟩, c2⟩ := cl_SE_copy d hI.st hI.kp (by omega)
  have I2 := hI.set x2 S2
  repeat (refine R_s kC9 rfl rfl ?_)
  refine R_get kC9 rfl (hI.ob) rfl ?_
  refine ZB_ne kC9 rfl (fun _ => ?_) (fun z => by cases z)
  repeat (refine R_s kC9 rfl rfl ?_)
  refine R_get kC9 rfl (hI.ob) rfl ?_
  repeat (refine R_s kC9 rfl rfl ?_)
  refine R_get kC9 rfl (hI.ob) rfl ?_
  refine R_cv kC9 rfl rfl rfl rfl hI.st.2.1 (by omega) c2 ?_
  repeat (refine R_s kC9 rfl rfl ?_)
  refine R_get kC9 rfl I2.ob rfl ?_
  refine R_get kC9 rfl I2.st.2.1 rfl ?_
  refine R_cv kC9 rfl rfl rfl rfl I2.st.2.2.1.2 (by omega) (sp_FA_size (d + 1) I2.st.2.2.1) ?_
  exact R_ri kC9 rfl ⟨rfl, x2.mono (by omega) (by omega), I2⟩
theorem nb_count (d : Nat) (hI : NBI h U K im tx T) (v : Int32) : Cl d 127 [.ref 3, .int v] h (some (.int (countR U tx.length v))) h := by
  have kC9 := co_NB_count
  refine Cl_of kC9 rfl rfl ?_
  unfold countR
  repeat (refine R_s kC9 rfl rfl ?_)
  rcases sw04 (v := v) with rfl | rfl | rfl | rfl | ⟨ho, n0, n1, n2, n3⟩
  · rw [if_pos rfl]
    refine R_sw kC9 rfl (t := 2) rfl ?_
    repeat (refine R_s kC9 rfl rfl ?_)
    refine R_get kC9 rfl (hI.ob) rfl ?_
    refine R_get kC9 rfl (hI.st.2.1) rfl ?_
    refine R_get kC9 rfl (hI.st.2.2.2.2.1.2.2.2.1) rfl ?_
    exact R_ri kC9 rfl ⟨rfl, rfl⟩
  · rw [if_neg (by decide), if_pos rfl]
    refine R_sw kC9 rfl (t := 7) rfl ?_
    repeat (refine R_s kC9 rfl rfl ?_)
    refine R_get kC9 rfl (hI.ob) rfl ?_
    refine R_get kC9 rfl (hI.st.2.1) rfl ?_
    refine R_get kC9 rfl (hI.st.2.2.2.2.2.1.2.2.2.1) rfl ?_
    exact R_ri kC9 rfl ⟨rfl, rfl⟩
  · rw [if_neg (by decide), if_neg (by decide), if_pos rfl]
    refine R_sw kC9 rfl (t := 12) rfl ?_
    repeat (refine R_s kC9 rfl rfl ?_)
    refine R_get kC9 rfl (hI.ob) rfl ?_
    refine R_get kC9 rfl (hI.st.2.1) rfl ?_
    refine R_get kC9 rfl (hI.st.2.2.2.2.2.2.2.2.2.1) rfl ?_
    exact R_ri kC9 rfl ⟨rfl, rfl⟩
  · rw [if_neg (by decide), if_neg (by decide), if_neg (by decide), if_pos rfl]
    refine R_sw kC9 rfl (t := 17) rfl ?_
    repeat (refine R_s kC9 rfl rfl ?_)
    refine R_get kC9 rfl (hI.ob) rfl ?_
    refine R_get kC9 rfl (hI.txt.2.1) rfl ?_
    exact R_ri kC9 rfl ⟨rfl, rfl⟩
  · rw [if_neg n0, if_neg n1, if_neg n2, if_neg n3]
    refine R_sw kC9 rfl (t := 21) (by rw [if_pos ho]; rfl) ?_
    repeat (refine R_s kC9 rfl rfl ?_)
    exact R_ri kC9 rfl ⟨rfl, rfl⟩
def tpV (v : Int32) : Value := if tpI v = true then .ref (64 + 2 * v.toNatClampNeg) else .null
theorem nb_tapeAt (d : Nat) (hI : NBI h U K im tx T) (v : Int32) : Cl d 136 [.ref 3, .int v] h (some (tpV v)) h := by
  have kC9 := co_NB_tapeAt
  refine Cl_of kC9 rfl rfl ?_
  have a6 : (nI 6).toInt = 6 := by decide
  unfold tpV tpI
  repeat (refine R_s kC9 rfl rfl ?_)
  refine Zr_lt kC9 rfl (fun hc => ?_) (fun hc => ?_)
  · rw [tI_lt, tI_0] at hc
    rw [decide_eq_false (by omega), if_neg (by decide)]
    repeat (refine R_s kC9 rfl rfl ?_)
    exact R_rn kC9 rfl ⟨rfl, rfl⟩
  · have hc1 := hc
    rw [tI_lt, tI_0] at hc
    repeat (refine R_s kC9 rfl rfl ?_)
    refine R_get kC9 rfl (hI.ob) rfl ?_
    refine R_alen kC9 rfl hI.tps (by omega) ?_
    refine Rr_ge kC9 rfl (fun hd => ?_) (fun hd => ?_)
    · rw [tI_le, a6] at hd
      rw [decide_eq_false (by omega), if_neg (by decide)]
      repeat (refine R_s kC9 rfl rfl ?_)
      exact R_rn kC9 rfl ⟨rfl, rfl⟩
    · rw [tI_le, a6] at hd
      rw [decide_eq_true (by omega), if_pos rfl]
      obtain ⟨k, hk, rfl⟩ := nI_of hc1
      rw [nI_toInt hk] at hd
      rw [nI_clamp hk]
      repeat (refine R_s kC9 rfl rfl ?_)
      refine R_get kC9 rfl (hI.ob) rfl ?_
      repeat (refine R_s kC9 rfl rfl ?_)
      refine R_aald kC9 rfl hI.tps (inB_nI (show k < 6 by omega) (by omega)) (by omega) ?_
      rw [nI_clamp hk, if_pos (show k < 6 by omega)]
      refine R_g kC9 rfl ?_
      exact R_ra kC9 rfl ⟨rfl, rfl⟩
end
