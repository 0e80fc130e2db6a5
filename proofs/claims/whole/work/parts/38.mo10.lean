/-! THE REFERENCE, 9: choose, drop -/
noncomputable def specChoose (U : US) (v : Int32) : Int32 × US := if inF U.1 U.2.1 v = true ∧ v ≠ nI (2 ^ U.1 - 1) then (if pb (idxF v U.2.2.2.1 0 = none ∧ TakesR U.2.1 U.2.2.2.1 v.toNatClampNeg) = true then (nI (U.2.2.2.1.length + 1), (U.1, U.2.1, U.2.2.1, U.2.2.2.1 ++ [v.toNatClampNeg], U.2.2.2.2)) else (-3, U)) else (-1, U)
def specDrop (U : US) (v : Int32) : Int32 × US := match idxF v U.2.2.2.1 0 with
  | some i => (nI (U.2.2.2.1.length - 1), (U.1, U.2.1, U.2.2.1, U.2.2.2.1.eraseIdx i, U.2.2.2.2))
  | none => (-1, U)
theorem idxR_none {ch : List Nat} {v : Int32} (h : idxF v ch 0 = none) : idxR ch v = -1 := by unfold idxR; rw [h]
theorem idxR_some {ch : List Nat} {v : Int32} {i : Nat} (h : idxF v ch 0 = some i) : idxR ch v = nI i := by unfold idxR; rw [h]
theorem nI_ne_neg {i : Nat} (h : i < 2 ^ 31) : nI i ≠ -1 := by
  intro e
  have h1 := nI_pos h
  rw [e] at h1
  exact h1 (by decide)
section
variable {h : AH} {k fed pl le fi co : Int32} {G : Nat → Int32} {U : US}
theorem lp_chooseA (d : Nat) (Q : Option Value → AH → Prop) (ho : h.2 76 = mob k fed pl le fi co) (hg : h.2 77 = ints 106 G) {ch : List Nat} (h58 : G 58 = nI ch.length) (hch : ∀ i x, ch[i]? = some x → G (59 + i) = nI x) (hl : ch.length ≤ 4) (v : Int32) (kk : ∀ N', (∀ i x, ch[i]? = some x → N' i = nI x) → R d 176 30 [some (.ref 76), some (.int v), some (.int (nI ch.length))] [] (upH h 80 (ints 5 N')) Q) : ∀ (m i : Nat) (N' : Nat → Int32), i + m = ch.length → (∀ j x, j < i → ch[j]? = some x → N' j = nI x) → R d 176 12 [some (.ref 76), some (.int v), some (.int (nI i))] [] (upH h 80 (ints 5 N')) Q := by
  have kC9 := co_MO_choose
  intro m
  induction m with
  | zero =>
    intro i N' hi hp
    have : i = ch.length := by omega
    subst this
    repeat (refine R_s kC9 rfl rfl ?_)
    refine R_get kC9 rfl (show (upH h 80 (ints 5 N')).2 76 = mob k fed pl le fi co from ho) rfl ?_
    repeat (refine R_s kC9 rfl rfl ?_)
    refine R_ild kC9 rfl (show (upH h 80 (ints 5 N')).2 77 = ints 106 G from hg) rfl (by decide) (by decide) ?_
    rw [h58]
    refine R_ge kC9 rfl (rfl) (rfl) (by omega) (by omega) (fun hc => ?_) (fun hc => ?_)
    · exact kk N' (fun j x hx => hp j x (List.getElem?_eq_some_iff.mp hx).1 hx)
    · omega
  | succ m ih =>
    intro i N' hi hp
    repeat (refine R_s kC9 rfl rfl ?_)
    refine R_get kC9 rfl (show (upH h 80 (ints 5 N')).2 76 = mob k fed pl le fi co from ho) rfl ?_
    repeat (refine R_s kC9 rfl rfl ?_)
    refine R_ild kC9 rfl (show (upH h 80 (ints 5 N')).2 77 = ints 106 G from hg) rfl (by decide) (by decide) ?_
    rw [h58]
    refine R_ge kC9 rfl (rfl) (rfl) (by omega) (by omega) (fun hc => ?_) (fun hc => ?_)
    · omega
    · obtain ⟨x, hx⟩ : ∃ x, ch[i]? = some x := ⟨ch[i], List.getElem?_eq_getElem hc⟩
      repeat (refine R_s kC9 rfl rfl ?_)
      refine R_get kC9 rfl (show (upH h 80 (ints 5 N')).2 76 = mob k fed pl le fi co from ho) rfl ?_
      repeat (refine R_s kC9 rfl rfl ?_)
      refine R_get kC9 rfl (show (upH h 80 (ints 5 N')).2 76 = mob k fed pl le fi co from ho) rfl ?_
      repeat (refine R_s kC9 rfl rfl ?_)
      refine R_ild kC9 rfl (show (upH h 80 (ints 5 N')).2 77 = ints 106 G from hg) (nI_add 59 i) (by omega) (by decide) ?_
      rw [hch i x hx]
      refine R_ist kC9 rfl (h := upH h 80 (ints 5 N')) rfl (by decide) (k := i) rfl (by omega) (by decide) ?_
      rw [upH_upH]
      repeat (refine R_s kC9 rfl rfl ?_)
      refine R_g kC9 rfl ?_
      refine (show R d 176 12 [some (.ref 76), some (.int v), some (.int (nI i + nI 1))] [] (upH h 80 (ints 5 (upd N' i (nI x)))) Q from ?_)
      rw [nI_add]
      refine ih (i + 1) _ (by omega) (fun j y hj hy => ?_)
      by_cases e : j = i
      · subst e
        rw [pk_us]
        rw [hx] at hy
        cases hy
        rfl
      · rw [pk_un e]
        exact hp j y (by omega) hy
theorem GU.chs {U : US} {G : Nat → Int32} (hU : GU U G) (hr : RowsOK U) (h3 : U.2.2.2.1.length ≤ 3) (c : Nat) : GU (U.1, U.2.1, U.2.2.1, U.2.2.2.1 ++ [c], U.2.2.2.2) (upd (upd G (59 + U.2.2.2.1.length) (nI c)) 58 (nI (U.2.2.2.1.length + 1))) := by
  have bq : ∀ q, q ≠ 58 → q ≠ 59 + U.2.2.2.1.length → (upd (upd G (59 + U.2.2.2.1.length) (nI c)) 58 (nI (U.2.2.2.1.length + 1))) q = G q := fun q h1 h2 => by rw [pk_un h1, pk_un h2]
  refine ⟨by rw [bq 0 (by omega) (by omega)]; exact hU.1, fun s hs => by rw [bq _ (by omega) (by omega)]; exact hU.2.1 s hs, fun q hq => by rw [bq _ (by omega) (by omega)]; exact hU.2.2.1 q hq, ⟨by rw [pk_us, List.length_append]; rfl, fun i x hx => ?_⟩, hU.2.2.2.2.1.congr (by have := hr.2.1; omega) (fun q h1 _ => bq q (by omega) (by omega)), hU.2.2.2.2.2.1.congr hr.2.2.1 (fun q h1 _ => bq q (by omega) (by omega)), hU.2.2.2.2.2.2.congr hr.2.2.2 (fun q h1 _ => bq q (by omega) (by omega))⟩
  dsimp only at hx
  rw [pk_un (by omega)]
  rcases Nat.lt_or_ge i U.2.2.2.1.length with hi | hi
  · rw [List.getElem?_append_left hi] at hx
    rw [pk_un (by omega)]
    exact hU.2.2.2.1.2 i x hx
  · rw [List.getElem?_append_right hi] at hx
    have hlt := (List.getElem?_eq_some_iff.mp hx).1
    simp only [List.length_cons, List.length_nil] at hlt
    have e : i = U.2.2.2.1.length := by omega
    subst e
    rw [Nat.sub_self] at hx
    cases hx
    exact pk_us
theorem sp_MO_choose (d : Nat) {N : Nat → Int32} (ho : h.2 76 = mob k fed pl le fi co) (hg : h.2 77 = ints 106 G) (hN : h.2 80 = ints 5 N) (hU : GU U G) (hr : RowsOK U) (hF : Fam U.1 U.2.1) (h32 : ∀ t ∈ U.2.2.2.1, t < 32) (v : Int32) (h3 : inF U.1 U.2.1 v = true → v ≠ nI (2 ^ U.1 - 1) → idxF v U.2.2.2.1 0 = none → TakesR U.2.1 U.2.2.2.1 v.toNatClampNeg → U.2.2.2.1.length ≤ 3) : ∃ z : (Nat → Int32) × (Nat → Int32), GU (specChoose U v).2 z.1 ∧ Cl (d + 3) 176 [.ref 76, .int v] h (some (.int (specChoose U v).1)) (upH (upH h 80 (ints 5 z.2)) 77 (ints 106 z.1)) := by
  have kC9 := co_MO_choose
  have hn := hF.2.1
  have hp := pow5 hn
  have keep : upH (upH h 80 (ints 5 N)) 77 (ints 106 G) = h := by rw [upH_self hN, upH_self hg]
  by_cases hv : inF U.1 U.2.1 v = true
  · have hv2 := hv
    unfold inF at hv2
    rw [Bool.and_eq_true] at hv2
    obtain ⟨c, c1, c2, c3, rfl⟩ := setB_of hn hv2.1
    rw [nI_clamp (by omega)] at h3
    by_cases hw : c = 2 ^ U.1 - 1
    · have e : specChoose U (nI c) = (-1, U) := by unfold specChoose; rw [if_neg (fun q => q.2 (by rw [hw]))]
      rw [e]
      refine ⟨(G, N), hU, ?_⟩
      dsimp only
      rw [keep]
      refine Cl_of kC9 rfl rfl ?_
      repeat (refine R_s kC9 rfl rfl ?_)
      refine R_cv kC9 rfl rfl rfl rfl (ho) (by decide) (sp_MO_isThere d ho hg hn hU.1 hU.2.1 (nI c)) ?_
      refine ZB_eq kC9 rfl (fun hc => by rw [hv] at hc; cases hc) (fun _ => ?_)
      repeat (refine R_s kC9 rfl rfl ?_)
      refine R_cv kC9 rfl rfl rfl rfl (ho) (by decide) (sp_MO_whole (d + 2) ho hg hn hU.1) ?_
      refine R_ne kC9 rfl rfl rfl (by omega) (by omega) (fun hc => absurd hw hc) (fun _ => ?_)
      repeat (refine R_s kC9 rfl rfl ?_)
      exact R_ri kC9 rfl ⟨rfl, rfl⟩
    · have hne : nI c ≠ nI (2 ^ U.1 - 1) := fun q => hw ((nI_eq (by omega) (by omega)).mp q)
      by_cases hz : idxF (nI c) U.2.2.2.1 0 = none ∧ TakesR U.2.1 U.2.2.2.1 c
      · have h3' := h3 hv hne hz.1 hz.2
        have e : specChoose U (nI c) = (nI (U.2.2.2.1.length + 1), (U.1, U.2.1, U.2.2.1, U.2.2.2.1 ++ [c], U.2.2.2.2)) := by unfold specChoose; rw [if_pos ⟨hv, hne⟩, nI_clamp (by omega), if_pos (pb_true.mpr hz)]
        rw [e]
        have key : ∃ N' : Nat → Int32, True ∧ Cl (d + 3) 176 [.ref 76, .int (nI c)] h (some (.int (nI (U.2.2.2.1.length + 1)))) (upH (upH h 80 (ints 5 N')) 77 (ints 106 (upd (upd G (59 + U.2.2.2.1.length) (nI c)) 58 (nI (U.2.2.2.1.length + 1))))) := by
          refine Cl_ex (f := fun _ => some (.int (nI (U.2.2.2.1.length + 1)))) (g := fun N' => upH (upH h 80 (ints 5 N')) 77 (ints 106 (upd (upd G (59 + U.2.2.2.1.length) (nI c)) 58 (nI (U.2.2.2.1.length + 1))))) kC9 rfl rfl ?_
          repeat (refine R_s kC9 rfl rfl ?_)
          refine R_cv kC9 rfl rfl rfl rfl (ho) (by decide) (sp_MO_isThere d ho hg hn hU.1 hU.2.1 (nI c)) ?_
          refine ZB_eq kC9 rfl (fun hc => by rw [hv] at hc; cases hc) (fun _ => ?_)
          repeat (refine R_s kC9 rfl rfl ?_)
          refine R_cv kC9 rfl rfl rfl rfl (ho) (by decide) (sp_MO_whole (d + 2) ho hg hn hU.1) ?_
          refine R_ne kC9 rfl rfl rfl (by omega) (by omega) (fun _ => ?_) (fun hc => absurd hc hw)
          iterate 2 (refine R_s kC9 rfl rfl ?_)
          refine (show R (d + 3) 176 12 [some (.ref 76), some (.int (nI c)), some (.int (nI 0))] [] h _ from ?_)
          have hh : h = upH h 80 (ints 5 N) := (upH_self hN).symm
          rw [hh]
          refine lp_chooseA (k := k) (fed := fed) (pl := pl) (le := le) (fi := fi) (co := co) (d + 3) _ ho hg hU.2.2.2.1.1 hU.2.2.2.1.2 hr.1 (nI c) (fun N' hN' => ?_) U.2.2.2.1.length 0 N (by omega) (fun j x hj => absurd hj (by omega))
          rw [← hh]
          have ho' : (upH h 80 (ints 5 N')).2 76 = mob k fed pl le fi co := ho
          have hg' : (upH h 80 (ints 5 N')).2 77 = ints 106 G := hg
          repeat (refine R_s kC9 rfl rfl ?_)
          refine R_cv kC9 rfl rfl rfl rfl (ho') (by decide) (sp_MO_chosenAt (d + 2) ho' hg' hU.2.2.2.1.1 hU.2.2.2.1.2 hr.1 (nI c)) ?_
          rw [idxR_none hz.1]
          repeat (refine R_s kC9 rfl rfl ?_)
          refine Rr_ne kC9 rfl (fun hc => absurd rfl hc) (fun _ => ?_)
          repeat (refine R_s kC9 rfl rfl ?_)
          refine R_get kC9 rfl (ho') rfl ?_
          repeat (refine R_s kC9 rfl rfl ?_)
          refine R_ild kC9 rfl (hg') (rfl) (by decide) (by decide) ?_
          rw [hU.2.2.2.1.1]
          repeat (refine R_s kC9 rfl rfl ?_)
          refine R_cv kC9 rfl rfl rfl rfl (ho') (by decide) (sp_MO_isNested (d + 1) ho' hg' hU.2.1 (rfl : (upH h 80 (ints 5 N')).2 80 = ints 5 N') hN' h32 hr.1 c3) ?_
          refine ZB_ne kC9 rfl (fun _ => ?_) (fun hc => absurd hz.2 (pb_false.mp hc))
          repeat (refine R_s kC9 rfl rfl ?_)
          refine R_get kC9 rfl (ho') rfl ?_
          repeat (refine R_s kC9 rfl rfl ?_)
          refine R_get kC9 rfl (ho') rfl ?_
          repeat (refine R_s kC9 rfl rfl ?_)
          refine R_ild kC9 rfl (hg') (rfl) (by decide) (by decide) ?_
          rw [hU.2.2.2.1.1]
          repeat (refine R_s kC9 rfl rfl ?_)
          refine R_ist kC9 rfl (hg') (by decide) (nI_add 59 _) (by omega) (by decide) ?_
          repeat (refine R_s kC9 rfl rfl ?_)
          refine R_get kC9 rfl (show (upH (upH h 80 (ints 5 N')) 77 (ints 106 (upd G (59 + U.2.2.2.1.length) (nI c)))).2 76 = mob k fed pl le fi co from ho) rfl ?_
          repeat (refine R_s kC9 rfl rfl ?_)
          refine R_ild kC9 rfl (h := upH (upH h 80 (ints 5 N')) 77 (ints 106 (upd G (59 + U.2.2.2.1.length) (nI c)))) rfl (k := 58) rfl (by decide) (by decide) ?_
          rw [pk_un (by omega), hU.2.2.2.1.1]
          repeat (refine R_s kC9 rfl rfl ?_)
          refine R_ist kC9 rfl (h := upH (upH h 80 (ints 5 N')) 77 (ints 106 (upd G (59 + U.2.2.2.1.length) (nI c)))) rfl (by decide) (k := 58) rfl (by decide) (by decide) ?_
          rw [upH_upH, nI_add]
          repeat (refine R_s kC9 rfl rfl ?_)
          refine R_get kC9 rfl (show (upH (upH h 80 (ints 5 N')) 77 (ints 106 _)).2 76 = mob k fed pl le fi co from ho) rfl ?_
          repeat (refine R_s kC9 rfl rfl ?_)
          refine R_ild kC9 rfl (h := upH (upH h 80 (ints 5 N')) 77 (ints 106 (upd (upd G (59 + U.2.2.2.1.length) (nI c)) 58 (nI (U.2.2.2.1.length + 1))))) rfl (k := 58) rfl (by decide) (by decide) ?_
          rw [pk_us]
          exact R_ri kC9 rfl ⟨N', trivial, rfl, rfl⟩
        obtain ⟨N', -, hcl⟩ := key
        exact ⟨(_, N'), hU.chs hr h3' c, hcl⟩
      · have e : specChoose U (nI c) = (-3, U) := by unfold specChoose; rw [if_pos ⟨hv, hne⟩, nI_clamp (by omega), if_neg (by rw [pb_false.mpr hz]; decide)]
        rw [e]
        have key : ∃ N' : Nat → Int32, True ∧ Cl (d + 3) 176 [.ref 76, .int (nI c)] h (some (.int (-3))) (upH (upH h 80 (ints 5 N')) 77 (ints 106 G)) := by
          refine Cl_ex (f := fun _ => some (.int (-3))) (g := fun N' => upH (upH h 80 (ints 5 N')) 77 (ints 106 G)) kC9 rfl rfl ?_
          repeat (refine R_s kC9 rfl rfl ?_)
          refine R_cv kC9 rfl rfl rfl rfl (ho) (by decide) (sp_MO_isThere d ho hg hn hU.1 hU.2.1 (nI c)) ?_
          refine ZB_eq kC9 rfl (fun hc => by rw [hv] at hc; cases hc) (fun _ => ?_)
          repeat (refine R_s kC9 rfl rfl ?_)
          refine R_cv kC9 rfl rfl rfl rfl (ho) (by decide) (sp_MO_whole (d + 2) ho hg hn hU.1) ?_
          refine R_ne kC9 rfl rfl rfl (by omega) (by omega) (fun _ => ?_) (fun hc => absurd hc hw)
          iterate 2 (refine R_s kC9 rfl rfl ?_)
          refine (show R (d + 3) 176 12 [some (.ref 76), some (.int (nI c)), some (.int (nI 0))] [] h _ from ?_)
          have hh : h = upH h 80 (ints 5 N) := (upH_self hN).symm
          rw [hh]
          refine lp_chooseA (k := k) (fed := fed) (pl := pl) (le := le) (fi := fi) (co := co) (d + 3) _ ho hg hU.2.2.2.1.1 hU.2.2.2.1.2 hr.1 (nI c) (fun N' hN' => ?_) U.2.2.2.1.length 0 N (by omega) (fun j x hj => absurd hj (by omega))
          rw [← hh]
          have ho' : (upH h 80 (ints 5 N')).2 76 = mob k fed pl le fi co := ho
          have hg' : (upH h 80 (ints 5 N')).2 77 = ints 106 G := hg
          have fin : R (d + 3) 176 43 [some (.ref 76), some (.int (nI c)), some (.int (nI U.2.2.2.1.length))] [] (upH h 80 (ints 5 N')) (fun r2 h2 => ∃ z : Nat → Int32, True ∧ r2 = some (.int (-3)) ∧ h2 = upH (upH h 80 (ints 5 z)) 77 (ints 106 G)) := by
            repeat (refine R_s kC9 rfl rfl ?_)
            exact R_ri kC9 rfl ⟨N', trivial, rfl, (upH_self hg').symm⟩
          repeat (refine R_s kC9 rfl rfl ?_)
          refine R_cv kC9 rfl rfl rfl rfl (ho') (by decide) (sp_MO_chosenAt (d + 2) ho' hg' hU.2.2.2.1.1 hU.2.2.2.1.2 hr.1 (nI c)) ?_
          repeat (refine R_s kC9 rfl rfl ?_)
          refine Rr_ne kC9 rfl (fun _ => fin) (fun hi => ?_)
          have hnone : idxF (nI c) U.2.2.2.1 0 = none := by
            cases hq : idxF (nI c) U.2.2.2.1 0 with
            | none => rfl
            | some i =>
              rw [idxR_some hq] at hi
              have := (idxF_lt _ _ _ hq).2.1
              exact absurd hi (nI_ne_neg (by have := hr.1; omega))
          repeat (refine R_s kC9 rfl rfl ?_)
          refine R_get kC9 rfl (ho') rfl ?_
          repeat (refine R_s kC9 rfl rfl ?_)
          refine R_ild kC9 rfl (hg') (rfl) (by decide) (by decide) ?_
          rw [hU.2.2.2.1.1]
          repeat (refine R_s kC9 rfl rfl ?_)
          refine R_cv kC9 rfl rfl rfl rfl (ho') (by decide) (sp_MO_isNested (d + 1) ho' hg' hU.2.1 (rfl : (upH h 80 (ints 5 N')).2 80 = ints 5 N') hN' h32 hr.1 c3) ?_
          exact ZB_ne kC9 rfl (fun hc => absurd ⟨hnone, pb_true.mp hc⟩ hz) (fun _ => fin)
        obtain ⟨N', -, hcl⟩ := key
        exact ⟨(G, N'), hU, hcl⟩
  · have e : specChoose U v = (-1, U) := by unfold specChoose; rw [if_neg (fun q => hv q.1)]
    rw [e]
    refine ⟨(G, N), hU, ?_⟩
    dsimp only
    rw [keep]
    refine Cl_of kC9 rfl rfl ?_
    repeat (refine R_s kC9 rfl rfl ?_)
    refine R_cv kC9 rfl rfl rfl rfl (ho) (by decide) (sp_MO_isThere d ho hg hn hU.1 hU.2.1 v) ?_
    refine ZB_eq kC9 rfl (fun _ => ?_) (fun hc => absurd hc hv)
    repeat (refine R_s kC9 rfl rfl ?_)
    exact R_ri kC9 rfl ⟨rfl, rfl⟩
end
