/-! THE SPECIFICATION, 1, and THE REFERENCE, 7: points, make, comes, goes, line -/
noncomputable def specPoints (U : US) (v : Int32) : Int32 × US := if 2 ≤ v.toInt ∧ v.toInt ≤ 5 then (nI U.1, (v.toNatClampNeg, makeS v.toNatClampNeg 0 0, 0, [], U.2.2.2.2)) else (-2, U)
noncomputable def specMake (U : US) (v : Int32) : Int32 × US := if 0 ≤ v.toInt ∧ v.toInt ≤ 6 then (nI (els (makeS U.1 U.2.2.1 v.toNatClampNeg)).length, (U.1, makeS U.1 U.2.2.1 v.toNatClampNeg, U.2.2.1, [], U.2.2.2.2)) else (-1, U)
noncomputable def specComes (U : US) (v : Int32) : Int32 × US := if setB U.1 v = true then (nI (els (joinS U.2.1 v.toNatClampNeg)).length, (U.1, joinS U.2.1 v.toNatClampNeg, U.2.2.1, if bt U.2.1 v.toNatClampNeg = true then U.2.2.2.1 else [], U.2.2.2.2)) else (-1, U)
noncomputable def specGoes (U : US) (v : Int32) : Int32 × US := if inF U.1 U.2.1 v = true then (if letB U.1 U.2.1 v.toNatClampNeg = true then (nI (els (delM U.2.1 v.toNatClampNeg)).length, (U.1, delM U.2.1 v.toNatClampNeg, U.2.2.1, [], U.2.2.2.2)) else (-3, U)) else (-1, U)
def setL (Lm : Int32) (a b : Nat) (v : Bool) : Int32 := maskOf (fun q => if q = 5 * a + b ∨ q = 5 * b + a then v else bt Lm q)
def specLine (U : US) (a b is : Int32) : Int32 × US := if twoB U.1 a b = true then (if 0 ≤ is.toInt ∧ is.toInt ≤ 1 then (b2i (lnB U.2.2.1 a.toNatClampNeg b.toNatClampNeg), (U.1, U.2.1, setL U.2.2.1 a.toNatClampNeg b.toNatClampNeg (decide (is = 1)), U.2.2.2)) else (-2, U)) else (-1, U)
theorem rng_nI {v : Int32} {a b : Nat} (h : (a : Int) ≤ v.toInt ∧ v.toInt ≤ (b : Int)) : ∃ k, a ≤ k ∧ k ≤ b ∧ k < 2 ^ 31 ∧ v = nI k := by
  have h0 : ¬ v < 0 := by
    rw [Int32.lt_iff_toInt_lt]
    have : (0 : Int32).toInt = 0 := by decide
    omega
  obtain ⟨k, hk, rfl⟩ := nI_of h0
  rw [nI_toInt hk] at h
  exact ⟨k, by omega, by omega, hk, rfl⟩
/-- what the rows of a set-up may be -/
def RowsOK (U : US) : Prop := U.2.2.2.1.length ≤ 4 ∧ U.2.2.2.2.1.length ≤ 4 ∧ U.2.2.2.2.2.1.length ≤ 8 ∧ U.2.2.2.2.2.2.length ≤ 8
section
variable {h : AH} {k fed pl le fi co : Int32} {G : Nat → Int32} {U : US}
theorem lp_begins (d : Nat) (Q : Option Value → AH → Prop) (ho : h.2 76 = mob k fed pl le fi co) (v : Int32) (kk : ∀ G', (∀ q, q < 25 → G' (33 + q) = nI 0) → (∀ q, q < 33 ∨ 58 ≤ q → G' q = G q) → R (d + 4) 159 19 [some (.ref 76), some (.int v), some (.int (nI 25))] [] (upH h 77 (ints 106 G')) Q) : ∀ (m s : Nat) (G' : Nat → Int32), s + m = 25 → (∀ q, q < s → G' (33 + q) = nI 0) → (∀ q, q < 33 ∨ 58 ≤ q → G' q = G q) → R (d + 4) 159 7 [some (.ref 76), some (.int v), some (.int (nI s))] [] (upH h 77 (ints 106 G')) Q := by
  have kC9 := co_MO_begins
  intro m
  induction m with
  | zero =>
    intro s G' hs h1 h2
    have : s = 25 := by omega
    subst this
    repeat (refine R_s kC9 rfl rfl ?_)
    refine R_ge kC9 rfl (rfl) (rfl) (by omega) (by omega) (fun hc => ?_) (fun hc => ?_)
    · exact kk G' h1 h2
    · omega
  | succ m ih =>
    intro s G' hs h1 h2
    have ho' : (upH h 77 (ints 106 G')).2 76 = mob k fed pl le fi co := ho
    repeat (refine R_s kC9 rfl rfl ?_)
    refine R_ge kC9 rfl (rfl) (rfl) (by omega) (by omega) (fun hc => ?_) (fun hc => ?_)
    · omega
    · repeat (refine R_s kC9 rfl rfl ?_)
      refine R_get kC9 rfl (ho') rfl ?_
      repeat (refine R_s kC9 rfl rfl ?_)
      refine R_ist kC9 rfl (h := upH h 77 (ints 106 G')) rfl (by decide) (k := 33 + s) (nI_add 33 s) (by omega) (by decide) ?_
      rw [upH_upH]
      repeat (refine R_s kC9 rfl rfl ?_)
      refine R_g kC9 rfl ?_
      refine (show R (d + 4) 159 7 [some (.ref 76), some (.int v), some (.int (nI s + nI 1))] [] (upH h 77 (ints 106 (upd G' (33 + s) (nI 0)))) Q from ?_)
      rw [nI_add]
      refine ih (s + 1) _ (by omega) (fun q hq => ?_) (fun q hq => by rw [pk_un (by omega)]; exact h2 q hq)
      by_cases e : q = s
      · subst e; exact pk_us
      · rw [pk_un (by omega)]; exact h1 q (by omega)
/-- begins(n) -/
theorem sp_MO_begins (d : Nat) (ho : h.2 76 = mob k fed pl le fi co) (hg : h.2 77 = ints 106 G) {m : Nat} (hm : m ≤ 5) : ∃ G', (G' 0 = nI m ∧ (∀ s, s < 32 → G' (1 + s) = b2i (bt (makeS m 0 0) s)) ∧ (∀ q, q < 25 → G' (33 + q) = nI 0) ∧ G' 58 = nI 0 ∧ ∀ q, 59 ≤ q → G' q = G q) ∧ Cl (d + 4) 159 [.ref 76, .int (nI m)] h none (upH h 77 (ints 106 G')) := by
  have kC9 := co_MO_begins
  refine Cl_ex (f := fun _ => none) (g := fun G' => upH h 77 (ints 106 G')) kC9 rfl rfl ?_
  repeat (refine R_s kC9 rfl rfl ?_)
  refine R_get kC9 rfl (ho) rfl ?_
  repeat (refine R_s kC9 rfl rfl ?_)
  refine R_ist kC9 rfl (hg) (by decide) (rfl) (by decide) (by decide) ?_
  iterate 2 (refine R_s kC9 rfl rfl ?_)
  refine lp_begins (k := k) (fed := fed) (pl := pl) (le := le) (fi := fi) (co := co) (G := upd G 0 (nI m)) d _ ho (nI m) (fun G' a1 a2 => ?_) 25 0 _ (by omega) (fun q hq => absurd hq (by omega)) (fun q _ => rfl)
  have ho' : (upH h 77 (ints 106 G')).2 76 = mob k fed pl le fi co := ho
  obtain ⟨G2, ⟨b0, bS, b58, bq⟩, hcl⟩ := sp_MO_makes (n := m) (Lm := 0) (c := 0) d ho' (rfl : (upH h 77 (ints 106 G')).2 77 = _) hm (by rw [a2 0 (by omega), pk_us]) (fun a b hab hb => by rw [a1 _ (by omega), b_0]; rfl) (by decide)
  repeat (refine R_s kC9 rfl rfl ?_)
  refine R_cv kC9 rfl rfl rfl rfl ho' (by decide) hcl ?_
  rw [upH_upH]
  refine R_rv kC9 rfl ⟨G2, ⟨b0, bS, fun q hq => by rw [bq _ (by omega) (by omega)]; exact a1 q hq, b58, fun q hq => by rw [bq q (by omega) (by omega), a2 q (by omega), pk_un (by omega)]⟩, rfl, rfl⟩
theorem sp_MO_points (d : Nat) (ho : h.2 76 = mob k fed pl le fi co) (hg : h.2 77 = ints 106 G) (hU : GU U G) (hr : RowsOK U) (v : Int32) : ∃ G', GU (specPoints U v).2 G' ∧ Cl (d + 5) 160 [.ref 76, .int v] h (some (.int (specPoints U v).1)) (upH h 77 (ints 106 G')) := by
  have kC9 := co_MO_points
  by_cases hv : 2 ≤ v.toInt ∧ v.toInt ≤ 5
  · obtain ⟨m, m1, m2, m3, rfl⟩ := rng_nI (a := 2) (b := 5) hv
    have e : specPoints U (nI m) = (nI U.1, (m, makeS m 0 0, 0, [], U.2.2.2.2)) := by unfold specPoints; rw [if_pos hv, nI_clamp m3]
    rw [e]
    obtain ⟨G', ⟨b0, bS, bL, b58, bq⟩, hcl⟩ := sp_MO_begins d ho hg m2
    refine ⟨G', ⟨b0, bS, fun q hq => by rw [bL q hq, b_0, Bool.and_false]; rfl, ⟨b58, fun i x hx => by simp at hx⟩, hU.2.2.2.2.1.congr (by have := hr.2.1; omega) (fun q h1 _ => bq q (by omega)), hU.2.2.2.2.2.1.congr hr.2.2.1 (fun q h1 _ => bq q (by omega)), hU.2.2.2.2.2.2.congr hr.2.2.2 (fun q h1 _ => bq q (by omega))⟩, ?_⟩
    refine Cl_of kC9 rfl rfl ?_
    repeat (refine R_s kC9 rfl rfl ?_)
    refine R_cs kC9 rfl rfl rfl rfl (sp_MO_isIn (d + 4) _ _ _ h) ?_
    refine ZB_ne kC9 rfl (fun _ => ?_) (fun hc => ?_)
    · repeat (refine R_s kC9 rfl rfl ?_)
      refine R_get kC9 rfl (ho) rfl ?_
      repeat (refine R_s kC9 rfl rfl ?_)
      refine R_ild kC9 rfl (hg) (rfl) (by decide) (by decide) ?_
      rw [hU.1]
      repeat (refine R_s kC9 rfl rfl ?_)
      refine R_cv kC9 rfl rfl rfl rfl ho (by decide) hcl ?_
      repeat (refine R_s kC9 rfl rfl ?_)
      exact R_ri kC9 rfl ⟨rfl, rfl⟩
    · rw [decide_eq_false_iff_not, Int32.toInt_toInt64] at hc
      exact absurd hv hc
  · have e : specPoints U v = (-2, U) := by unfold specPoints; rw [if_neg hv]
    rw [e]
    refine ⟨G, hU, ?_⟩
    rw [upH_self hg]
    refine Cl_of kC9 rfl rfl ?_
    repeat (refine R_s kC9 rfl rfl ?_)
    refine R_cs kC9 rfl rfl rfl rfl (sp_MO_isIn (d + 4) _ _ _ h) ?_
    refine ZB_ne kC9 rfl (fun hc => ?_) (fun _ => ?_)
    · rw [decide_eq_true_eq, Int32.toInt_toInt64] at hc
      exact absurd hc hv
    · repeat (refine R_s kC9 rfl rfl ?_)
      exact R_ri kC9 rfl ⟨rfl, rfl⟩
theorem sp_MO_make (d : Nat) (ho : h.2 76 = mob k fed pl le fi co) (hg : h.2 77 = ints 106 G) (hU : GU U G) (hr : RowsOK U) (hn : U.1 ≤ 5) (v : Int32) : ∃ G', GU (specMake U v).2 G' ∧ Cl (d + 4) 166 [.ref 76, .int v] h (some (.int (specMake U v).1)) (upH h 77 (ints 106 G')) := by
  have kC9 := co_MO_make
  by_cases hv : 0 ≤ v.toInt ∧ v.toInt ≤ 6
  · obtain ⟨c, c1, c2, c3, rfl⟩ := rng_nI (a := 0) (b := 6) hv
    have e : specMake U (nI c) = (nI (els (makeS U.1 U.2.2.1 c)).length, (U.1, makeS U.1 U.2.2.1 c, U.2.2.1, [], U.2.2.2.2)) := by unfold specMake; rw [if_pos hv, nI_clamp c3]
    rw [e]
    obtain ⟨G', ⟨b0, bS, b58, bq⟩, hcl⟩ := sp_MO_makes d ho hg hn hU.1 hU.ln (c := c) (by omega)
    refine ⟨G', ⟨b0, bS, fun q hq => by rw [bq _ (by omega) (by omega)]; exact hU.2.2.1 q hq, ⟨b58, fun i x hx => by simp at hx⟩, hU.2.2.2.2.1.congr (by have := hr.2.1; omega) (fun q h1 _ => bq q (by omega) (by omega)), hU.2.2.2.2.2.1.congr hr.2.2.1 (fun q h1 _ => bq q (by omega) (by omega)), hU.2.2.2.2.2.2.congr hr.2.2.2 (fun q h1 _ => bq q (by omega) (by omega))⟩, ?_⟩
    refine Cl_of kC9 rfl rfl ?_
    repeat (refine R_s kC9 rfl rfl ?_)
    refine R_cs kC9 rfl rfl rfl rfl (sp_MO_isIn (d + 3) _ _ _ h) ?_
    refine ZB_ne kC9 rfl (fun _ => ?_) (fun hc => ?_)
    · repeat (refine R_s kC9 rfl rfl ?_)
      refine R_cv kC9 rfl rfl rfl rfl ho (by decide) hcl ?_
      repeat (refine R_s kC9 rfl rfl ?_)
      have ho' : (upH h 77 (ints 106 G')).2 76 = mob k fed pl le fi co := ho
      have hb0 : bt (makeS U.1 U.2.2.1 c) 0 = false := by unfold makeS; rw [maskOf_bt _ (by omega)]; rfl
      refine R_cv kC9 rfl rfl rfl rfl ho' (by decide) (sp_MO_sets (d + 3) ho' rfl bS hb0) ?_
      repeat (refine R_s kC9 rfl rfl ?_)
      exact R_ri kC9 rfl ⟨rfl, rfl⟩
    · rw [decide_eq_false_iff_not, Int32.toInt_toInt64] at hc
      exact absurd hv hc
  · have e : specMake U v = (-1, U) := by unfold specMake; rw [if_neg hv]
    rw [e]
    refine ⟨G, hU, ?_⟩
    rw [upH_self hg]
    refine Cl_of kC9 rfl rfl ?_
    repeat (refine R_s kC9 rfl rfl ?_)
    refine R_cs kC9 rfl rfl rfl rfl (sp_MO_isIn (d + 3) _ _ _ h) ?_
    refine ZB_ne kC9 rfl (fun hc => ?_) (fun _ => ?_)
    · rw [decide_eq_true_eq, Int32.toInt_toInt64] at hc
      exact absurd hc hv
    · repeat (refine R_s kC9 rfl rfl ?_)
      exact R_ri kC9 rfl ⟨rfl, rfl⟩
theorem joinS_b0 {S : Int32} {c : Nat} (h0 : bt S 0 = false) (hc : 1 ≤ c) (hc32 : c < 32) : bt (joinS S c) 0 = false := by
  unfold joinS
  split
  · exact h0
  · unfold closeS
    rw [maskOf_bt _ (by omega)]
    refine pb_false.mpr (fun q => ?_)
    have := q (fun t => decide (t ≠ 0)) (fun a b _ _ ha _ _ => by
      simp only [decide_eq_true_eq] at ha ⊢
      intro e
      exact ha (Nat.or_eq_zero_iff.mp e).1) (fun t ht htr => by
      rw [addM_bt _ hc32 ht] at htr
      simp only [decide_eq_true_eq]
      intro e
      subst e
      rw [h0, decide_eq_false (by omega)] at htr
      cases htr)
    simp at this
theorem sp_MO_comes (d : Nat) (ho : h.2 76 = mob k fed pl le fi co) (hg : h.2 77 = ints 106 G) (hU : GU U G) (hr : RowsOK U) (hF : Fam U.1 U.2.1) (v : Int32) : ∃ G', GU (specComes U v).2 G' ∧ Cl (d + 3) 169 [.ref 76, .int v] h (some (.int (specComes U v).1)) (upH h 77 (ints 106 G')) := by
  have kC9 := co_MO_comes
  have hn := hF.2.1
  by_cases hv : setB U.1 v = true
  · obtain ⟨c, c1, c2, c3, rfl⟩ := setB_of hn hv
    have e : specComes U (nI c) = (nI (els (joinS U.2.1 c)).length, (U.1, joinS U.2.1 c, U.2.2.1, if bt U.2.1 c = true then U.2.2.2.1 else [], U.2.2.2.2)) := by unfold specComes; rw [if_pos hv, nI_clamp (by omega)]
    rw [e]
    obtain ⟨G', ⟨bS, b0, b58, bq⟩, hcl⟩ := sp_MO_joins (d + 1) ho hg hU.2.1 c3
    refine ⟨G', ⟨by rw [b0]; exact hU.1, bS, fun q hq => by rw [bq _ (by omega) (by omega)]; exact hU.2.2.1 q hq, ?_, hU.2.2.2.2.1.congr (by have := hr.2.1; omega) (fun q h1 _ => bq q (by omega) (by omega)), hU.2.2.2.2.2.1.congr hr.2.2.1 (fun q h1 _ => bq q (by omega) (by omega)), hU.2.2.2.2.2.2.congr hr.2.2.2 (fun q h1 _ => bq q (by omega) (by omega))⟩, ?_⟩
    · dsimp only
      cases hb : bt U.2.1 c with
      | true =>
        rw [hb, if_pos rfl] at b58
        rw [if_pos rfl]
        refine ⟨by rw [b58]; exact hU.2.2.2.1.1, fun i x hx => ?_⟩
        rw [bq _ (by omega) (by omega)]
        exact hU.2.2.2.1.2 i x hx
      | false =>
        rw [hb, if_neg (by decide)] at b58
        rw [if_neg (by decide)]
        exact ⟨b58, fun i x hx => by simp at hx⟩
    · refine Cl_of kC9 rfl rfl ?_
      repeat (refine R_s kC9 rfl rfl ?_)
      refine R_cv kC9 rfl rfl rfl rfl (ho) (by decide) (sp_MO_isSet (d + 1) ho hg hn hU.1 (nI c)) ?_
      refine ZB_ne kC9 rfl (fun _ => ?_) (fun hc => by rw [hv] at hc; cases hc)
      repeat (refine R_s kC9 rfl rfl ?_)
      refine R_cv kC9 rfl rfl rfl rfl ho (by decide) hcl ?_
      repeat (refine R_s kC9 rfl rfl ?_)
      have ho' : (upH h 77 (ints 106 G')).2 76 = mob k fed pl le fi co := ho
      refine R_cv kC9 rfl rfl rfl rfl ho' (by decide) (sp_MO_sets (d + 2) ho' rfl bS (joinS_b0 hF.b0 c1 c3)) ?_
      repeat (refine R_s kC9 rfl rfl ?_)
      exact R_ri kC9 rfl ⟨rfl, rfl⟩
  · have hvf : setB U.1 v = false := by cases hq : setB U.1 v with | true => exact absurd hq hv | false => rfl
    have e : specComes U v = (-1, U) := by unfold specComes; rw [if_neg hv]
    rw [e]
    refine ⟨G, hU, ?_⟩
    rw [upH_self hg]
    refine Cl_of kC9 rfl rfl ?_
    repeat (refine R_s kC9 rfl rfl ?_)
    refine R_cv kC9 rfl rfl rfl rfl (ho) (by decide) (sp_MO_isSet (d + 1) ho hg hn hU.1 v) ?_
    refine ZB_ne kC9 rfl (fun hc => absurd hc hv) (fun _ => ?_)
    repeat (refine R_s kC9 rfl rfl ?_)
    exact R_ri kC9 rfl ⟨rfl, rfl⟩
theorem delM_b0 {S : Int32} {c : Nat} (h0 : bt S 0 = false) : bt (delM S c) 0 = false := by rw [delM_bt S (by omega), h0]; rfl
theorem sp_MO_goes (d : Nat) (ho : h.2 76 = mob k fed pl le fi co) (hg : h.2 77 = ints 106 G) (hU : GU U G) (hr : RowsOK U) (hF : Fam U.1 U.2.1) (v : Int32) : ∃ G', GU (specGoes U v).2 G' ∧ Cl (d + 3) 171 [.ref 76, .int v] h (some (.int (specGoes U v).1)) (upH h 77 (ints 106 G')) := by
  have kC9 := co_MO_goes
  have hn := hF.2.1
  by_cases hv : inF U.1 U.2.1 v = true
  · have hv2 := hv
    unfold inF at hv2
    rw [Bool.and_eq_true] at hv2
    obtain ⟨c, c1, c2, c3, rfl⟩ := setB_of hn hv2.1
    rw [nI_clamp (by omega)] at hv2
    have hlet := sp_MO_isLet (d + 1) ho hg hn hU.1 hU.2.1 c3 hv2.2
    cases hl : letB U.1 U.2.1 c with
    | true =>
      have e : specGoes U (nI c) = (nI (els (delM U.2.1 c)).length, (U.1, delM U.2.1 c, U.2.2.1, [], U.2.2.2.2)) := by unfold specGoes; rw [if_pos hv, nI_clamp (by omega), if_pos hl]
      rw [e]
      rw [hl, if_pos rfl] at hlet
      have bS : ∀ s, s < 32 → (upd (upd G (1 + c) (nI 0)) 58 (nI 0)) (1 + s) = b2i (bt (delM U.2.1 c) s) := by
        intro s hs
        rw [pk_un (by omega), delM_bt _ hs]
        by_cases e2 : s = c
        · subst e2; rw [pk_us, decide_eq_true rfl]; simp; rfl
        · rw [pk_un (by omega), hU.2.1 s hs, decide_eq_false e2]; simp
      have bq : ∀ q, 33 ≤ q → q ≠ 58 → (upd (upd G (1 + c) (nI 0)) 58 (nI 0)) q = G q := fun q h1 h2 => by rw [pk_un h2, pk_un (by omega)]
      refine ⟨_, ⟨by rw [pk_un (by omega), pk_un (by omega)]; exact hU.1, bS, fun q hq => by rw [bq _ (by omega) (by omega)]; exact hU.2.2.1 q hq, ⟨pk_us, fun i x hx => by simp at hx⟩, hU.2.2.2.2.1.congr (by have := hr.2.1; omega) (fun q h1 _ => bq q (by omega) (by omega)), hU.2.2.2.2.2.1.congr hr.2.2.1 (fun q h1 _ => bq q (by omega) (by omega)), hU.2.2.2.2.2.2.congr hr.2.2.2 (fun q h1 _ => bq q (by omega) (by omega))⟩, ?_⟩
      refine Cl_of kC9 rfl rfl ?_
      repeat (refine R_s kC9 rfl rfl ?_)
      refine R_cv kC9 rfl rfl rfl rfl (ho) (by decide) (sp_MO_isThere d ho hg hn hU.1 hU.2.1 (nI c)) ?_
      refine ZB_ne kC9 rfl (fun _ => ?_) (fun hc => by rw [hv] at hc; cases hc)
      repeat (refine R_s kC9 rfl rfl ?_)
      refine R_cv kC9 rfl rfl rfl rfl ho (by decide) hlet ?_
      refine ZB_eq kC9 rfl (q := true) (fun hq => by cases hq) (fun _ => ?_)
      repeat (refine R_s kC9 rfl rfl ?_)
      refine R_cv kC9 rfl rfl rfl rfl (show (upH h 77 _).2 76 = mob k fed pl le fi co from ho) (by decide) (sp_MO_sets (d + 2) (show (upH h 77 _).2 76 = mob k fed pl le fi co from ho) rfl bS (delM_b0 hF.b0)) ?_
      refine R_g kC9 rfl ?_
      exact R_ri kC9 rfl ⟨rfl, rfl⟩
    | false =>
      have e : specGoes U (nI c) = (-3, U) := by unfold specGoes; rw [if_pos hv, nI_clamp (by omega), if_neg (by rw [hl]; decide)]
      rw [e]
      rw [hl, if_neg (by decide)] at hlet
      refine ⟨G, hU, ?_⟩
      refine Cl_of kC9 rfl rfl ?_
      repeat (refine R_s kC9 rfl rfl ?_)
      refine R_cv kC9 rfl rfl rfl rfl (ho) (by decide) (sp_MO_isThere d ho hg hn hU.1 hU.2.1 (nI c)) ?_
      refine ZB_ne kC9 rfl (fun _ => ?_) (fun hc => by rw [hv] at hc; cases hc)
      repeat (refine R_s kC9 rfl rfl ?_)
      refine R_cv kC9 rfl rfl rfl rfl ho (by decide) hlet ?_
      refine ZB_eq kC9 rfl (q := false) (fun _ => ?_) (fun hq => by cases hq)
      repeat (refine R_s kC9 rfl rfl ?_)
      exact R_ri kC9 rfl ⟨rfl, rfl⟩
  · have e : specGoes U v = (-1, U) := by unfold specGoes; rw [if_neg hv]
    rw [e]
    refine ⟨G, hU, ?_⟩
    rw [upH_self hg]
    refine Cl_of kC9 rfl rfl ?_
    repeat (refine R_s kC9 rfl rfl ?_)
    refine R_cv kC9 rfl rfl rfl rfl (ho) (by decide) (sp_MO_isThere d ho hg hn hU.1 hU.2.1 v) ?_
    refine ZB_ne kC9 rfl (fun hc => absurd hc hv) (fun _ => ?_)
    repeat (refine R_s kC9 rfl rfl ?_)
    exact R_ri kC9 rfl ⟨rfl, rfl⟩
end
