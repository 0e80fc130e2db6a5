/-! THE REFERENCE, 13: a clause is done; read -/
/-- the set that digits tell; 0: one is no point -/
def toldN (n : Nat) : List Nat → Nat → Nat
  | [], acc => acc
  | x :: t, acc => if x < n then toldN n t (acc ||| 2 ^ x) else 0
theorem toldN_cons (n x : Nat) (t : List Nat) (acc : Nat) : toldN n (x :: t) acc = if x < n then toldN n t (acc ||| 2 ^ x) else 0 := rfl
theorem toldN_lt {n : Nat} (hn : n ≤ 5) : ∀ (l : List Nat) (acc : Nat), acc < 32 → toldN n l acc < 32
  | [], acc, h => h
  | x :: t, acc, h => by
    rw [toldN_cons]
    split
    · rename_i hx
      exact toldN_lt hn t _ (Nat.or_lt_two_pow (n := 5) h (Nat.pow_lt_pow_right (by omega) (by omega)))
    · omega
def okR (r : Int32) : Bool := !decide (r < 0)
noncomputable def doCl (U : US) (c : Int32) (ds : List Nat) : Bool × US :=
  if c = nI 110 then (okR (specPoints U (nI (ds.getD 0 0))).1, (specPoints U (nI (ds.getD 0 0))).2)
  else if c = nI 107 then (okR (specMake U (nI (ds.getD 0 0))).1, (specMake U (nI (ds.getD 0 0))).2)
  else if c = nI 108 then (okR (specLine U (nI (ds.getD 0 0)) (nI (ds.getD 1 0)) (b2i (!lnB U.2.2.1 (ds.getD 0 0) (ds.getD 1 0)))).1, (specLine U (nI (ds.getD 0 0)) (nI (ds.getD 1 0)) (b2i (!lnB U.2.2.1 (ds.getD 0 0) (ds.getD 1 0)))).2)
  else if c = nI 115 then (okR (specComes U (nI (toldN U.1 ds 0))).1, (specComes U (nI (toldN U.1 ds 0))).2)
  else if c = nI 116 then (okR (specGoes U (nI (toldN U.1 ds 0))).1, (specGoes U (nI (toldN U.1 ds 0))).2)
  else (okR (specChoose U (nI (toldN U.1 ds 0))).1, (specChoose U (nI (toldN U.1 ds 0))).2)
/-- what is asked of a set-up, whatever keeps it -/
def Good (P : US → Prop) : Prop := (∀ U, P U → RowsOK U ∧ Fam U.1 U.2.1 ∧ (∀ t ∈ U.2.2.2.1, t < 32) ∧ ∀ v, inF U.1 U.2.1 v = true → v ≠ nI (2 ^ U.1 - 1) → idxF v U.2.2.2.1 0 = none → TakesR U.2.1 U.2.2.2.1 v.toNatClampNeg → U.2.2.2.1.length ≤ 3) ∧ ∀ U c ds, P U → P (doCl U c ds).2
section
variable {h : AH} {k fed pl le fi co : Int32} {G T Fg : Nat → Int32} {U : US} {tx : List Nat}
theorem lp_told (d : Nat) (ho : h.2 76 = mob k fed pl le fi co) (hg : h.2 77 = ints 106 G) (hFg : h.2 82 = ints 5 Fg) {n : Nat} (hn : n ≤ 5) (hn1 : 1 ≤ n) (h0 : G 0 = nI n) {ds : List Nat} (hfi : fi = nI ds.length) (hds : ∀ i x, ds[i]? = some x → Fg i = nI x ∧ x ≤ 9) (hl : ds.length ≤ 5) : ∀ (m i acc : Nat), i + m = ds.length → acc < 32 → R (d + 2) 183 4 [some (.ref 76), some (.int (nI acc)), some (.int (nI i))] [] h (fun r2 h2 => r2 = some (.int (nI (toldN n (ds.drop i) acc))) ∧ h2 = h) := by
  subst hfi
  have kC9 := co_MO_toldSet
  intro m
  induction m with
  | zero =>
    intro i acc hi ha
    repeat (refine R_s kC9 rfl rfl ?_)
    refine R_get kC9 rfl (ho) rfl ?_
    refine R_ge kC9 rfl (rfl) (rfl) (by omega) (by omega) (fun hc => ?_) (fun hc => ?_)
    · repeat (refine R_s kC9 rfl rfl ?_)
      refine R_ri kC9 rfl ⟨?_, rfl⟩
      rw [List.drop_eq_nil_of_le (by omega)]
      rfl
    · omega
  | succ m ih =>
    intro i acc hi ha
    repeat (refine R_s kC9 rfl rfl ?_)
    refine R_get kC9 rfl (ho) rfl ?_
    refine R_ge kC9 rfl (rfl) (rfl) (by omega) (by omega) (fun hc => ?_) (fun hc => ?_)
    · omega
    · obtain ⟨x, hx⟩ : ∃ x, ds[i]? = some x := ⟨ds[i], List.getElem?_eq_getElem hc⟩
      obtain ⟨e1, hx9⟩ := hds i x hx
      rw [drop_cons hx, toldN_cons]
      repeat (refine R_s kC9 rfl rfl ?_)
      refine R_get kC9 rfl (ho) rfl ?_
      repeat (refine R_s kC9 rfl rfl ?_)
      refine R_ild kC9 rfl (hFg) (rfl) (by omega) (by decide) ?_
      rw [e1]
      refine R_cv kC9 rfl rfl rfl rfl (ho) (by decide) (sp_MO_isPoint d ho hg hn hn1 h0 (nI x)) ?_
      rw [ptB_nI (by omega)]
      refine ZB_ne kC9 rfl (fun hq => ?_) (fun hq => ?_)
      · have hxn : x < n := of_decide_eq_true hq
        rw [if_pos hxn]
        repeat (refine R_s kC9 rfl rfl ?_)
        refine R_get kC9 rfl (ho) rfl ?_
        repeat (refine R_s kC9 rfl rfl ?_)
        refine R_ild kC9 rfl (hFg) (rfl) (by omega) (by decide) ?_
        rw [e1]
        repeat (refine R_s kC9 rfl rfl ?_)
        refine R_g kC9 rfl ?_
        refine (show R (d + 2) 183 4 [some (.ref 76), some (.int (nI acc ||| nI 1 <<< (nI x &&& 31))), some (.int (nI i + nI 1))] [] h _ from ?_)
        rw [nI_shl (by omega), nx_or, Nat.one_shiftLeft, nI_add]
        exact ih (i + 1) _ (by omega) (Nat.or_lt_two_pow (n := 5) ha (Nat.pow_lt_pow_right (by omega) (by omega)))
      · have hxn : ¬ x < n := of_decide_eq_false hq
        rw [if_neg hxn]
        repeat (refine R_s kC9 rfl rfl ?_)
        exact R_ri kC9 rfl ⟨rfl, rfl⟩
theorem sp_MO_toldSet (d : Nat) (ho : h.2 76 = mob k fed pl le fi co) (hg : h.2 77 = ints 106 G) (hFg : h.2 82 = ints 5 Fg) {n : Nat} (hn : n ≤ 5) (hn1 : 1 ≤ n) (h0 : G 0 = nI n) {ds : List Nat} (hfi : fi = nI ds.length) (hds : ∀ i x, ds[i]? = some x → Fg i = nI x ∧ x ≤ 9) (hl : ds.length ≤ 5) : Cl (d + 2) 183 [.ref 76] h (some (.int (nI (toldN n ds 0)))) h := by
  have kC9 := co_MO_toldSet
  refine Cl_of kC9 rfl rfl ?_
  iterate 4 (refine R_s kC9 rfl rfl ?_)
  have := lp_told d ho hg hFg hn hn1 h0 hfi hds hl ds.length 0 0 (by omega) (by omega)
  rw [List.drop_zero] at this
  exact this
theorem okR_t {r : Int32} (h : ¬ r < 0) : okR r = true := by unfold okR; rw [decide_eq_false h]; rfl
theorem okR_f {r : Int32} (h : r < 0) : okR r = false := by unfold okR; rw [decide_eq_true h]; rfl
theorem sp_MO_isDone (d : Nat) {P : US → Prop} (hP : Good P) {N : Nat → Int32} {c : Int32} (ho : h.2 76 = mob k fed pl c fi co) (hg : h.2 77 = ints 106 G) (hN : h.2 80 = ints 5 N) (hFg : h.2 82 = ints 5 Fg) (hU : GU U G) (hPU : P U) {ds : List Nat} (hfi : fi = nI ds.length) (hds : ∀ i x, ds[i]? = some x → Fg i = nI x ∧ x ≤ 9) (hl : ds.length ≤ 5) (h1 : 1 ≤ ds.length) (h2 : c = nI 108 → ds.length = 2) (hm : mostF c ≠ 0) : ∃ z : (Nat → Int32) × (Nat → Int32), GU (doCl U c ds).2 z.1 ∧ Cl (d + 6) 184 [.ref 76] h (some (.int (b2i (doCl U c ds).1))) (upH (upH h 80 (ints 5 z.2)) 77 (ints 106 z.1)) := by
  have kC9 := co_MO_isDone
  obtain ⟨hr, hF, h32, h3⟩ := hP.1 U hPU
  have hn := hF.2.1
  have hn1 : 1 ≤ U.1 := by have := hF.1; omega
  obtain ⟨x0, hx0⟩ : ∃ x, ds[0]? = some x := ⟨ds[0], List.getElem?_eq_getElem (by omega)⟩
  obtain ⟨f0, x09⟩ := hds 0 x0 hx0
  have g0 : ds.getD 0 0 = x0 := by rw [List.getD_eq_getElem?_getD, hx0]; rfl
  have htold := sp_MO_toldSet (d + 3) ho hg hFg hn hn1 hU.1 hfi hds hl
  have six : c = nI 110 ∨ c = nI 107 ∨ c = nI 108 ∨ c = nI 115 ∨ c = nI 116 ∨ c = nI 99 := by
    unfold mostF at hm
    by_cases a1 : c = nI 110 ∨ c = nI 107
    · rcases a1 with q | q
      · exact Or.inl q
      · exact Or.inr (Or.inl q)
    · rw [if_neg a1] at hm
      by_cases a2 : c = nI 108
      · exact Or.inr (Or.inr (Or.inl a2))
      · rw [if_neg a2] at hm
        by_cases a3 : c = nI 115 ∨ c = nI 116 ∨ c = nI 99
        · exact Or.inr (Or.inr (Or.inr a3))
        · rw [if_neg a3] at hm
          exact absurd rfl hm
  have keepN : ∀ G', upH (upH h 80 (ints 5 N)) 77 (ints 106 G') = upH h 77 (ints 106 G') := fun G' => by rw [upH_self hN]
  rcases six with rfl | rfl | rfl | rfl | rfl | rfl
  · have e : doCl U (nI 110) ds = (okR (specPoints U (nI x0)).1, (specPoints U (nI x0)).2) := by unfold doCl; rw [if_pos rfl, g0]
    rw [e]
    obtain ⟨G', hG', hcl⟩ := sp_MO_points d ho hg hU hr (nI x0)
    refine ⟨(G', N), hG', ?_⟩
    dsimp only
    rw [keepN]
    refine Cl_of kC9 rfl rfl ?_
    repeat (refine R_s kC9 rfl rfl ?_)
    refine R_get kC9 rfl (ho) rfl ?_
    refine R_sw kC9 rfl (t := 3) (by decide) ?_
    repeat (refine R_s kC9 rfl rfl ?_)
    refine R_get kC9 rfl (ho) rfl ?_
    repeat (refine R_s kC9 rfl rfl ?_)
    refine R_ild kC9 rfl (hFg) (rfl) (by decide) (by decide) ?_
    rw [f0]
    refine R_cv kC9 rfl rfl rfl rfl ho (by decide) hcl ?_
    refine Zr_lt kC9 rfl (fun hq => ?_) (fun hq => ?_)
    · repeat (refine R_s kC9 rfl rfl ?_)
      exact R_rz kC9 rfl (Or.inl rfl) ⟨ri_eq (b2i_f (okR_f hq)), rfl⟩
    · repeat (refine R_s kC9 rfl rfl ?_)
      refine R_g kC9 rfl ?_
      exact R_rz kC9 rfl (Or.inr rfl) ⟨ri_eq (b2i_t (okR_t hq)), rfl⟩
  · have e : doCl U (nI 107) ds = (okR (specMake U (nI x0)).1, (specMake U (nI x0)).2) := by unfold doCl; rw [if_neg (by decide), if_pos rfl, g0]
    rw [e]
    obtain ⟨G', hG', hcl⟩ := sp_MO_make (d + 1) ho hg hU hr hn (nI x0)
    refine ⟨(G', N), hG', ?_⟩
    dsimp only
    rw [keepN]
    refine Cl_of kC9 rfl rfl ?_
    repeat (refine R_s kC9 rfl rfl ?_)
    refine R_get kC9 rfl (ho) rfl ?_
    refine R_sw kC9 rfl (t := 14) (by decide) ?_
    repeat (refine R_s kC9 rfl rfl ?_)
    refine R_get kC9 rfl (ho) rfl ?_
    repeat (refine R_s kC9 rfl rfl ?_)
    refine R_ild kC9 rfl (hFg) (rfl) (by decide) (by decide) ?_
    rw [f0]
    refine R_cv kC9 rfl rfl rfl rfl ho (by decide) hcl ?_
    refine Zr_lt kC9 rfl (fun hq => ?_) (fun hq => ?_)
    · repeat (refine R_s kC9 rfl rfl ?_)
      exact R_rz kC9 rfl (Or.inl rfl) ⟨ri_eq (b2i_f (okR_f hq)), rfl⟩
    · repeat (refine R_s kC9 rfl rfl ?_)
      refine R_g kC9 rfl ?_
      exact R_rz kC9 rfl (Or.inr rfl) ⟨ri_eq (b2i_t (okR_t hq)), rfl⟩
  · have hl2 := h2 rfl
    obtain ⟨x1, hx1⟩ : ∃ x, ds[1]? = some x := ⟨ds[1], List.getElem?_eq_getElem (by omega)⟩
    obtain ⟨f1, x19⟩ := hds 1 x1 hx1
    have g1 : ds.getD 1 0 = x1 := by rw [List.getD_eq_getElem?_getD, hx1]; rfl
    have e : doCl U (nI 108) ds = (okR (specLine U (nI x0) (nI x1) (b2i (!lnB U.2.2.1 x0 x1))).1, (specLine U (nI x0) (nI x1) (b2i (!lnB U.2.2.1 x0 x1))).2) := by unfold doCl; rw [if_neg (by decide), if_neg (by decide), if_pos rfl, g0, g1]
    rw [e]
    cases ht : twoB U.1 (nI x0) (nI x1) with
    | false =>
      have e2 : specLine U (nI x0) (nI x1) (b2i (!lnB U.2.2.1 x0 x1)) = (-1, U) := by unfold specLine; rw [if_neg (by rw [ht]; decide)]
      rw [e2]
      refine ⟨(G, N), hU, ?_⟩
      dsimp only
      rw [keepN, upH_self hg]
      refine Cl_of kC9 rfl rfl ?_
      repeat (refine R_s kC9 rfl rfl ?_)
      refine R_get kC9 rfl (ho) rfl ?_
      refine R_sw kC9 rfl (t := 25) (by decide) ?_
      repeat (refine R_s kC9 rfl rfl ?_)
      refine R_get kC9 rfl (ho) rfl ?_
      repeat (refine R_s kC9 rfl rfl ?_)
      refine R_ild kC9 rfl (hFg) (rfl) (by decide) (by decide) ?_
      rw [f0]
      repeat (refine R_s kC9 rfl rfl ?_)
      refine R_get kC9 rfl (ho) rfl ?_
      repeat (refine R_s kC9 rfl rfl ?_)
      refine R_ild kC9 rfl (hFg) (rfl) (by decide) (by decide) ?_
      rw [f1]
      refine R_cv kC9 rfl rfl rfl rfl (ho) (by decide) (sp_MO_areTwo (d + 3) ho hg hn hn1 hU.1 (nI x0) (nI x1)) ?_
      refine ZB_eq kC9 rfl (fun _ => ?_) (fun hq => by rw [ht] at hq; cases hq)
      repeat (refine R_s kC9 rfl rfl ?_)
      exact R_rz kC9 rfl (Or.inl rfl) ⟨ri_eq (b2i_f (okR_f (by decide))), rfl⟩
    | true =>
      have ht2 := ht
      unfold twoB at ht2
      simp only [Bool.and_eq_true, Bool.not_eq_true', decide_eq_false_iff_not] at ht2
      obtain ⟨⟨ha, hb⟩, hne⟩ := ht2
      rw [ptB_nI (by omega), decide_eq_true_eq] at ha hb
      have hxy : x0 ≠ x1 := fun q => hne (by rw [q])
      have hlx : lnX x0 x1 < 25 := by unfold lnX; split <;> omega
      have hq1 : lnX x0 x1 / 5 < lnX x0 x1 % 5 := by unfold lnX; split <;> omega
      have eG : G (33 + lnX x0 x1) = b2i (lnB U.2.2.1 x0 x1) := by
        rw [hU.2.2.1 _ hlx, decide_eq_true hq1, Bool.true_and]
        rfl
      have e1m : nI 1 - b2i (lnB U.2.2.1 x0 x1) = b2i (!lnB U.2.2.1 x0 x1) := by cases lnB U.2.2.1 x0 x1 <;> decide
      obtain ⟨G', hG', hcl⟩ := sp_MO_line (d + 2) ho hg hU hn hn1 (nI x0) (nI x1) (b2i (!lnB U.2.2.1 x0 x1))
      refine ⟨(G', N), hG', ?_⟩
      dsimp only
      rw [keepN]
      refine Cl_of kC9 rfl rfl ?_
      repeat (refine R_s kC9 rfl rfl ?_)
      refine R_get kC9 rfl (ho) rfl ?_
      refine R_sw kC9 rfl (t := 25) (by decide) ?_
      repeat (refine R_s kC9 rfl rfl ?_)
      refine R_get kC9 rfl (ho) rfl ?_
      repeat (refine R_s kC9 rfl rfl ?_)
      refine R_ild kC9 rfl (hFg) (rfl) (by decide) (by decide) ?_
      rw [f0]
      repeat (refine R_s kC9 rfl rfl ?_)
      refine R_get kC9 rfl (ho) rfl ?_
      repeat (refine R_s kC9 rfl rfl ?_)
      refine R_ild kC9 rfl (hFg) (rfl) (by decide) (by decide) ?_
      rw [f1]
      refine R_cv kC9 rfl rfl rfl rfl (ho) (by decide) (sp_MO_areTwo (d + 3) ho hg hn hn1 hU.1 (nI x0) (nI x1)) ?_
      refine ZB_eq kC9 rfl (fun hq => by rw [ht] at hq; cases hq) (fun _ => ?_)
      repeat (refine R_s kC9 rfl rfl ?_)
      refine R_get kC9 rfl (ho) rfl ?_
      repeat (refine R_s kC9 rfl rfl ?_)
      refine R_ild kC9 rfl (hFg) (rfl) (by decide) (by decide) ?_
      rw [f0]
      repeat (refine R_s kC9 rfl rfl ?_)
      refine R_get kC9 rfl (ho) rfl ?_
      repeat (refine R_s kC9 rfl rfl ?_)
      refine R_ild kC9 rfl (hFg) (rfl) (by decide) (by decide) ?_
      rw [f1]
      repeat (refine R_s kC9 rfl rfl ?_)
      refine R_get kC9 rfl (ho) rfl ?_
      repeat (refine R_s kC9 rfl rfl ?_)
      refine R_get kC9 rfl (ho) rfl ?_
      repeat (refine R_s kC9 rfl rfl ?_)
      refine R_ild kC9 rfl (hFg) (rfl) (by decide) (by decide) ?_
      rw [f0]
      repeat (refine R_s kC9 rfl rfl ?_)
      refine R_get kC9 rfl (ho) rfl ?_
      repeat (refine R_s kC9 rfl rfl ?_)
      refine R_ild kC9 rfl (hFg) (rfl) (by decide) (by decide) ?_
      rw [f1]
      refine R_cv kC9 rfl rfl rfl rfl (ho) (by decide) (sp_MO_lineAt (d + 5) (by omega) (by omega)) ?_
      refine R_ild kC9 rfl (hg) (rfl) (by omega) (by decide) ?_
      rw [eG]
      repeat (refine R_s kC9 rfl rfl ?_)
      rw [e1m]
      refine R_cv kC9 rfl rfl rfl rfl ho (by decide) hcl ?_
      refine Zr_lt kC9 rfl (fun hq => ?_) (fun hq => ?_)
      · repeat (refine R_s kC9 rfl rfl ?_)
        exact R_rz kC9 rfl (Or.inl rfl) ⟨ri_eq (b2i_f (okR_f hq)), rfl⟩
      · repeat (refine R_s kC9 rfl rfl ?_)
        refine R_g kC9 rfl ?_
        exact R_rz kC9 rfl (Or.inr rfl) ⟨ri_eq (b2i_t (okR_t hq)), rfl⟩
  · have e : doCl U (nI 115) ds = (okR (specComes U (nI (toldN U.1 ds 0))).1, (specComes U (nI (toldN U.1 ds 0))).2) := by unfold doCl; rw [if_neg (by decide), if_neg (by decide), if_neg (by decide), if_pos rfl]
    rw [e]
    obtain ⟨G', hG', hcl⟩ := sp_MO_comes (d + 2) ho hg hU hr hF (nI (toldN U.1 ds 0))
    refine ⟨(G', N), hG', ?_⟩
    dsimp only
    rw [keepN]
    refine Cl_of kC9 rfl rfl ?_
    repeat (refine R_s kC9 rfl rfl ?_)
    refine R_get kC9 rfl (ho) rfl ?_
    refine R_sw kC9 rfl (t := 66) (by decide) ?_
    repeat (refine R_s kC9 rfl rfl ?_)
    refine R_cv kC9 rfl rfl rfl rfl (ho) (by decide) (htold) ?_
    refine R_cv kC9 rfl rfl rfl rfl ho (by decide) hcl ?_
    refine Zr_lt kC9 rfl (fun hq => ?_) (fun hq => ?_)
    · repeat (refine R_s kC9 rfl rfl ?_)
      exact R_rz kC9 rfl (Or.inl rfl) ⟨ri_eq (b2i_f (okR_f hq)), rfl⟩
    · repeat (refine R_s kC9 rfl rfl ?_)
      refine R_g kC9 rfl ?_
      exact R_rz kC9 rfl (Or.inr rfl) ⟨ri_eq (b2i_t (okR_t hq)), rfl⟩
  · have e : doCl U (nI 116) ds = (okR (specGoes U (nI (toldN U.1 ds 0))).1, (specGoes U (nI (toldN U.1 ds 0))).2) := by unfold doCl; rw [if_neg (by decide), if_neg (by decide), if_neg (by decide), if_neg (by decide), if_pos rfl]
    rw [e]
    obtain ⟨G', hG', hcl⟩ := sp_MO_goes (d + 2) ho hg hU hr hF (nI (toldN U.1 ds 0))
    refine ⟨(G', N), hG', ?_⟩
    dsimp only
    rw [keepN]
    refine Cl_of kC9 rfl rfl ?_
    repeat (refine R_s kC9 rfl rfl ?_)
    refine R_get kC9 rfl (ho) rfl ?_
    refine R_sw kC9 rfl (t := 75) (by decide) ?_
    repeat (refine R_s kC9 rfl rfl ?_)
    refine R_cv kC9 rfl rfl rfl rfl (ho) (by decide) (htold) ?_
    refine R_cv kC9 rfl rfl rfl rfl ho (by decide) hcl ?_
    refine Zr_lt kC9 rfl (fun hq => ?_) (fun hq => ?_)
    · repeat (refine R_s kC9 rfl rfl ?_)
      exact R_rz kC9 rfl (Or.inl rfl) ⟨ri_eq (b2i_f (okR_f hq)), rfl⟩
    · repeat (refine R_s kC9 rfl rfl ?_)
      refine R_g kC9 rfl ?_
      exact R_rz kC9 rfl (Or.inr rfl) ⟨ri_eq (b2i_t (okR_t hq)), rfl⟩
  · have e : doCl U (nI 99) ds = (okR (specChoose U (nI (toldN U.1 ds 0))).1, (specChoose U (nI (toldN U.1 ds 0))).2) := by unfold doCl; rw [if_neg (by decide), if_neg (by decide), if_neg (by decide), if_neg (by decide), if_neg (by decide)]
    rw [e]
    obtain ⟨z, hz, hcl⟩ := sp_MO_choose (d + 2) ho hg hN hU hr hF h32 (nI (toldN U.1 ds 0)) (h3 _)
    refine ⟨z, hz, ?_⟩
    refine Cl_of kC9 rfl rfl ?_
    repeat (refine R_s kC9 rfl rfl ?_)
    refine R_get kC9 rfl (ho) rfl ?_
    refine R_sw kC9 rfl (t := 84) (by decide) ?_
    repeat (refine R_s kC9 rfl rfl ?_)
    refine R_cv kC9 rfl rfl rfl rfl (ho) (by decide) (htold) ?_
    refine R_cv kC9 rfl rfl rfl rfl ho (by decide) hcl ?_
    refine Zr_lt kC9 rfl (fun hq => ?_) (fun hq => ?_)
    · repeat (refine R_s kC9 rfl rfl ?_)
      exact R_rz kC9 rfl (Or.inl rfl) ⟨ri_eq (b2i_f (okR_f hq)), rfl⟩
    · repeat (refine R_s kC9 rfl rfl ?_)
      refine R_g kC9 rfl ?_
      exact R_rz kC9 rfl (Or.inr rfl) ⟨ri_eq (b2i_t (okR_t hq)), rfl⟩
end
