/-! THE REFERENCE, 35: after -/
noncomputable def afU (U : US) : List (Int32 × Int32) → US
  | [] => U
  | x :: l => afU (evU U x.1.toNatClampNeg x.2.toNatClampNeg) l
theorem afU_cons (U : US) (x : Int32 × Int32) (l : List (Int32 × Int32)) : afU U (x :: l) = afU (evU U x.1.toNatClampNeg x.2.toNatClampNeg) l := rfl
noncomputable def afterR (U : US) (v : Int32) : Int32 := if 0 ≤ v.toInt ∧ v.toInt ≤ 2 then (if v = 0 then nI (els (afU U U.2.2.2.2.2.1).2.1).length else if v = 1 then nI (cornS (afU U U.2.2.2.2.2.1).1 (afU U U.2.2.2.2.2.1).2.1).length else nI (farN (afU U U.2.2.2.2.2.1).1 (afU U U.2.2.2.2.2.1).2.1)) else -1
theorem evU_rows (U : US) (j m : Nat) : (evU U j m).2.2.2.2 = U.2.2.2.2 := by
  unfold evU
  split
  · unfold specComes; split <;> rfl
  · split
    · unfold specGoes
      split
      · split <;> rfl
      · rfl
    · split
      · unfold specMake; split <;> rfl
      · split <;> rfl
def evV (x : Int32 × Int32) : Prop := ∃ j m, ((j < 2 ∧ 1 ≤ m ∧ m < 32) ∨ (j = 2 ∧ m ≤ 6) ∨ (j = 3 ∧ m ≤ 99)) ∧ x = (nI j, nI m)
/-- what families that come of events keep -/
def GoodE (P : US → Prop) : Prop := (∀ V, P V → RowsOK V ∧ Fam V.1 V.2.1 ∧ c120 V.1 V.2.1 ∧ flOK V.1 V.2.1) ∧ ∀ V j m, P V → ((j < 2 ∧ 1 ≤ m ∧ m < 32) ∨ (j = 2 ∧ m ≤ 6) ∨ (j = 3 ∧ m ≤ 99)) → P (evU V j m)
section
variable {k fed pl le fi : Int32} {U : US}
theorem lp_after (d : Nat) (Q : Option Value → AH → Prop) {P : US → Prop} (hP : GoodE P) (v1 : Int32) {ev : List (Int32 × Int32)} (hl : ev.length ≤ 8) (hev : ∀ x ∈ ev, evV x) : ∀ (m i : Nat) (h : AH) (V : US) (G : Nat → Int32) (z : ZT), i + m = ev.length → mCel h k fed pl le fi G z → GU V G → P V → V.2.2.2.2.2.1 = ev → (∀ (G' : Nat → Int32), GU (afU V (ev.drop i)) G' → P (afU V (ev.drop i)) → R (d + 5) 234 41 [some (.ref 76), some (.int v1), some (.int (nI ev.length))] [] (upH h 77 (ints 106 G')) Q) → R (d + 5) 234 15 [some (.ref 76), some (.int v1), some (.int (nI i))] [] h Q := by
  have kC9 := co_MO_after
  intro m
  induction m with
  | zero =>
    intro i h V G z hi hm hU hPV eV kk
    have ho := hm.1
    have hg := hm.2.1
    have e72 := hU.2.2.2.2.2.1.1
    rw [eV] at e72
    rw [List.drop_eq_nil_of_le (by omega)] at kk
    repeat (refine R_s kC9 rfl rfl ?_)
    refine R_get kC9 rfl (ho) rfl ?_
    repeat (refine R_s kC9 rfl rfl ?_)
    refine R_ild kC9 rfl (hg) (rfl) (by decide) (by decide) ?_
    rw [e72]
    refine R_ge kC9 rfl (rfl) (rfl) (by omega) (by omega) (fun hc => ?_) (fun hc => ?_)
    · have := kk G hU hPV
      rw [upH_self hg] at this
      have e : i = ev.length := by omega
      rw [e]
      exact this
    · omega
  | succ m ih =>
    intro i h V G z hi hm hU hPV eV kk
    have ho := hm.1
    have hg := hm.2.1
    have hrow := hU.2.2.2.2.2.1
    rw [eV] at hrow
    obtain ⟨hrV, hFV, _, _⟩ := hP.1 V hPV
    repeat (refine R_s kC9 rfl rfl ?_)
    refine R_get kC9 rfl (ho) rfl ?_
    repeat (refine R_s kC9 rfl rfl ?_)
    refine R_ild kC9 rfl (hg) (rfl) (by decide) (by decide) ?_
    rw [hrow.1]
    refine R_ge kC9 rfl (rfl) (rfl) (by omega) (by omega) (fun hc => ?_) (fun hc => ?_)
    · omega
    · obtain ⟨x, hx⟩ : ∃ x, ev[i]? = some x := ⟨ev[i], List.getElem?_eq_getElem hc⟩
      obtain ⟨j, mm, hj, rfl⟩ := hev x (List.mem_of_getElem? hx)
      have hh := hrow.2 i _ hx
      have hj31 : j < 2 ^ 31 ∧ mm < 2 ^ 31 := by omega
      rw [drop_cons hx, afU_cons] at kk
      dsimp only at kk
      rw [nI_clamp hj31.1, nI_clamp hj31.2] at kk
      obtain ⟨G2, hG2, hcl⟩ := sp_MO_happens d ho hg hU hrV hFV hj
      repeat (refine R_s kC9 rfl rfl ?_)
      refine R_get kC9 rfl (ho) rfl ?_
      repeat (refine R_s kC9 rfl rfl ?_)
      refine R_ild kC9 rfl hg (k := 72 + 1 + 2 * i) (show nI 73 + nI 2 * nI i = _ by rw [pk_mul, nI_add]) (by omega) (by decide) ?_
      rw [hh.1]
      repeat (refine R_s kC9 rfl rfl ?_)
      refine R_get kC9 rfl (ho) rfl ?_
      repeat (refine R_s kC9 rfl rfl ?_)
      refine R_ild kC9 rfl hg (k := 72 + 2 + 2 * i) (show nI 74 + nI 2 * nI i = _ by rw [pk_mul, nI_add]) (by omega) (by decide) ?_
      rw [hh.2]
      refine R_cv kC9 rfl rfl rfl rfl ho (by decide) hcl ?_
      repeat (refine R_s kC9 rfl rfl ?_)
      refine R_g kC9 rfl ?_
      refine (show R (d + 5) 234 15 [some (.ref 76), some (.int v1), some (.int (nI i + nI 1))] [] (upH h 77 (ints 106 G2)) Q from ?_)
      rw [nI_add]
      refine ih (i + 1) (upH h 77 (ints 106 G2)) (evU V j mm) G2 z (by omega) ⟨hm.1, rfl, hm.2.2⟩ hG2 (hP.2 V j mm hPV hj) (by rw [evU_rows]; exact eV) (fun G' q1 q2 => ?_)
      rw [upH_upH]
      exact kk G' q1 q2
end
