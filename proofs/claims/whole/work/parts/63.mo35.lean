/-! THE REFERENCE, 34: fits -/
/-- all but what fits and after write is as it was -/
def frm3 (h h' : AH) : Prop := h'.1 = h.1 ∧ ∀ q, ¬ (q = 76 ∨ q = 77 ∨ q = 79 ∨ q = 80 ∨ (83 ≤ q ∧ q ≤ 91)) → h'.2 q = h.2 q
theorem frm3.trans {h h' h'' : AH} (a : frm3 h h') (b : frm3 h' h'') : frm3 h h'' := ⟨b.1.trans a.1, fun q hq => (b.2 q hq).trans (a.2 q hq)⟩
theorem frm2.to3 {h h' : AH} (a : frm2 h h') : frm3 h h' := ⟨a.1, fun q hq => a.2 q (by omega)⟩
theorem frm3.rfl {h : AH} : frm3 h h := ⟨Eq.refl _, fun _ _ => Eq.refl _⟩
theorem up77_frm (h : AH) (c : AC) : frm3 h (upH h 77 c) := ⟨Eq.refl _, fun q hq => by
  simp only [upH]
  rw [if_neg (by omega)]⟩
theorem up79_frm (h : AH) (c : AC) : frm3 h (upH h 79 c) := ⟨Eq.refl _, fun q hq => by
  simp only [upH]
  rw [if_neg (by omega)]⟩
def ftF (P : Nat → Bool) : Nat → Int32
  | 0 => nI 0
  | c + 1 => ftF P c ||| (if P c = true then nI 1 <<< (nI c &&& 31) else nI 0)
theorem ftF_succ (P : Nat → Bool) (c : Nat) : ftF P (c + 1) = ftF P c ||| (if P c = true then nI 1 <<< (nI c &&& 31) else nI 0) := rfl
noncomputable def fitB (U : US) (c : Nat) : Bool := U.2.2.2.2.1.all (seenB U.1 (makeS U.1 U.2.2.1 c))
noncomputable def fitsR (U : US) : Int32 := ftF (fitB U) 7
section
variable {k fed pl le fi : Int32} {U : US}
theorem lp_fits (d : Nat) (hr : RowsOK U) (hri : RowsIn U) (hn : U.1 ≤ 5) (hn2 : 2 ≤ U.1) (hb : ∀ c, c < 7 → c120 U.1 (makeS U.1 U.2.2.1 c)) {W : Nat → Int32} (hW : GU U W) : ∀ (m c : Nat) (h : AH) (U' : US) (G : Nat → Int32) (z : ZT), c + m = 7 → mCel h k fed pl le fi G z → GU U' G → U'.1 = U.1 → U'.2.2.1 = U.2.2.1 → U'.2.2.2.2 = U.2.2.2.2 → RowsOK U' → h.2 79 = ints 106 W → caI z → rows4 h → R (d + 9) 228 9 [some (.ref 76), some (.int (ftF (fitB U) c)), some (.int (nI c))] [] h (fun r2 h2 => ∃ h', (∃ G' z', mCel h' k fed pl le fi G' z' ∧ GU U G' ∧ caI z' ∧ frm3 h h' ∧ rows4 h' ∧ h'.2 79 = ints 106 W) ∧ r2 = some (.int (fitsR U)) ∧ h2 = h') := by
  have kC9 := co_MO_fits
  intro m
  induction m with
  | zero =>
    intro c h U' G z hc hm hU e1 e2 e3 hr' h79 hI hrw
    have ho := hm.1
    have hg := hm.2.1
    have : c = 7 := by omega
    subst this
    repeat (refine R_s kC9 rfl rfl ?_)
    refine R_ge kC9 rfl (rfl) (rfl) (by omega) (by omega) (fun hc => ?_) (fun hc => ?_)
    · obtain ⟨G', hG', hcl⟩ := sp_MO_copies (h := h) (d + 8) (a := 79) (b := 77) (by decide) (by decide) h79 hg
      repeat (refine R_s kC9 rfl rfl ?_)
      refine R_get kC9 rfl (ho) rfl ?_
      repeat (refine R_s kC9 rfl rfl ?_)
      refine R_get kC9 rfl (ho) rfl ?_
      refine R_cs kC9 rfl rfl rfl rfl hcl ?_
      repeat (refine R_s kC9 rfl rfl ?_)
      exact R_ri kC9 rfl ⟨upH h 77 (ints 106 G'), ⟨G', z, ⟨hm.1, rfl, hm.2.2⟩, hW.congr hr hG', hI, up77_frm h _, hrw, h79⟩, rfl, rfl⟩
    · omega
  | succ m ih =>
    intro c h U' G z hc hm hU e1 e2 e3 hr' h79 hI hrw
    have ho := hm.1
    have hg := hm.2.1
    have hc7 : c < 7 := by omega
    obtain ⟨G2, ⟨b0, bS, b58, bq⟩, hcl⟩ := sp_MO_makes (n := U.1) (Lm := U.2.2.1) (d + 5) ho hg hn (by rw [← e1]; exact hU.1) (by rw [← e2]; exact hU.ln) hc7
    have hm2 : mCel (upH h 77 (ints 106 G2)) k fed pl le fi G2 z := ⟨hm.1, rfl, hm.2.2⟩
    have hU2 : GU (U.1, makeS U.1 U.2.2.1 c, U.2.2.1, [], U.2.2.2.2) G2 := by
      have := hU.fam hr' (S' := makeS U.1 U.2.2.1 c) (ch' := []) (b0.trans (by rw [hU.1, e1])) bS ⟨b58, fun i x hx => by simp at hx⟩ (fun q q1 q2 => bq q q1 (by omega))
      rw [e1, e2, e3] at this
      exact this
    have hr2 : RowsOK (U.1, makeS U.1 U.2.2.1 c, U.2.2.1, [], U.2.2.2.2) := ⟨Nat.zero_le _, hr.2.1, hr.2.2.1, hr.2.2.2⟩
    obtain ⟨z3, h3, hz3, hm3, hf3, hcl3⟩ := sp_MO_isSeen (n := U.1) (S := makeS U.1 U.2.2.1 c) d hm2 hn hn2 b0 bS (hb c hc7) hI (se := U.2.2.2.2.1) hU2.2.2.2.2.1 hr.2.1 hri.2.1
    have h793 : h3.2 79 = ints 106 W := (hf3.2 79 (by omega)).trans h79
    have hrw3 : rows4 h3 := rows4.frm (h := upH h 77 (ints 106 G2)) hrw hf3
    have goon : ∀ v : Int32, v = (if fitB U c = true then nI 1 <<< (nI c &&& 31) else nI 0) → R (d + 9) 228 24 [some (.ref 76), some (.int (ftF (fitB U) c)), some (.int (nI c))] [.int v, .int (ftF (fitB U) c)] h3 (fun r2 h2 => ∃ h', (∃ G' z', mCel h' k fed pl le fi G' z' ∧ GU U G' ∧ caI z' ∧ frm3 h h' ∧ rows4 h' ∧ h'.2 79 = ints 106 W) ∧ r2 = some (.int (fitsR U)) ∧ h2 = h') := by
      intro v hv
      subst hv
      repeat (refine R_s kC9 rfl rfl ?_)
      refine R_g kC9 rfl ?_
      refine (show R (d + 9) 228 9 [some (.ref 76), some (.int (ftF (fitB U) c ||| (if fitB U c = true then nI 1 <<< (nI c &&& 31) else nI 0))), some (.int (nI c + nI 1))] [] h3 _ from ?_)
      rw [nI_add, ← ftF_succ]
      obtain ⟨fu, r2, h2, hrun, h', ⟨G', z', a1, a2, a3, a4, a5, a6⟩, er, eh⟩ := ih (c + 1) h3 _ G2 z3 (by omega) hm3 hU2 rfl rfl rfl hr2 h793 (hz3.i hn) hrw3
      exact ⟨fu, r2, h2, hrun, h', ⟨G', z', a1, a2, a3, (up77_frm h _).trans (hf3.to2.to3.trans a4), a5, a6⟩, er, eh⟩
    repeat (refine R_s kC9 rfl rfl ?_)
    refine R_ge kC9 rfl (rfl) (rfl) (by omega) (by omega) (fun hc => ?_) (fun hc => ?_)
    · omega
    · repeat (refine R_s kC9 rfl rfl ?_)
      refine R_cv kC9 rfl rfl rfl rfl ho (by decide) hcl ?_
      repeat (refine R_s kC9 rfl rfl ?_)
      refine R_cv kC9 rfl rfl rfl rfl hm2.1 (by decide) hcl3 ?_
      refine ZB_eq kC9 rfl (fun q => ?_) (fun q => ?_)
      · iterate 1 (refine R_s kC9 rfl rfl ?_)
        exact goon _ (by unfold fitB; rw [q, if_neg (by decide)])
      · repeat (refine R_s kC9 rfl rfl ?_)
        refine R_g kC9 rfl ?_
        exact goon _ (by unfold fitB; rw [q, if_pos rfl])
theorem sp_MO_fits (d : Nat) {h : AH} {G : Nat → Int32} {z : ZT} (hm : mCel h k fed pl le fi G z) (hU : GU U G) (hr : RowsOK U) (hri : RowsIn U) (hn : U.1 ≤ 5) (hn2 : 2 ≤ U.1) (hb : ∀ c, c < 7 → c120 U.1 (makeS U.1 U.2.2.1 c)) {W : Nat → Int32} (h79 : h.2 79 = ints 106 W) (hI : caI z) (hrw : rows4 h) : ∃ h', (∃ G' z' W', mCel h' k fed pl le fi G' z' ∧ GU U G' ∧ caI z' ∧ frm3 h h' ∧ rows4 h' ∧ h'.2 79 = ints 106 W') ∧ Cl (d + 9) 228 [.ref 76] h (some (.int (fitsR U))) h' := by
  have kC9 := co_MO_fits
  have ho := hm.1
  have hg := hm.2.1
  refine Cl_ex (f := fun _ => some (.int (fitsR U))) (g := fun h' => h') kC9 rfl rfl ?_
  obtain ⟨W', hW', hcl⟩ := sp_MO_copies (h := h) (d + 8) (a := 77) (b := 79) (by decide) (by decide) hg h79
  repeat (refine R_s kC9 rfl rfl ?_)
  refine R_get kC9 rfl (ho) rfl ?_
  repeat (refine R_s kC9 rfl rfl ?_)
  refine R_get kC9 rfl (ho) rfl ?_
  refine R_cs kC9 rfl rfl rfl rfl hcl ?_
  iterate 4 (refine R_s kC9 rfl rfl ?_)
  obtain ⟨fu, r2, h2, hrun, h', ⟨G', z', a1, a2, a3, a4, a5, a6⟩, er, eh⟩ := lp_fits (k := k) (fed := fed) (pl := pl) (le := le) (fi := fi) d hr hri hn hn2 hb (hU.congr hr hW') 7 0 (upH h 79 (ints 106 W')) U G z (by omega) hm hU rfl rfl rfl hr rfl hI hrw
  exact ⟨fu, r2, h2, hrun, h', ⟨G', z', W', a1, a2, a3, (up79_frm h _).trans a4, a5, a6⟩, er, eh⟩
end
