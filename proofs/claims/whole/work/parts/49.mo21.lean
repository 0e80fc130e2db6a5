/-! THE REFERENCE, 20: judge, common, happens -/
theorem gcd_st (a b : Nat) : Nat.gcd b (a % b) = Nat.gcd a b := by rw [Nat.gcd_comm b, ← Nat.gcd_rec, Nat.gcd_comm]
theorem lnX_or {x y : Nat} (hx : x < 5) (hy : y < 5) (hxy : x ≠ y) : lnX x y < 25 ∧ lnX x y / 5 < lnX x y % 5 := by unfold lnX; split <;> omega
section
variable {h : AH} {k fed pl le fi co : Int32} {G Sf Zf : Nat → Int32} {If : Nat → Int64} {T : TPS}
theorem lp_judge (d : Nat) (ho : h.2 76 = mob k fed pl le fi co) (hg : h.2 77 = ints 106 G) (hz : h.2 93 = ints 6 Zf) (hi : h.2 94 = longs 360 If) {S : Int32} (hS : ∀ s, s < 32 → G (1 + s) = b2i (bt S s)) (hb0 : bt S 0 = false) {t : Nat} (ht : t < 6) {its : List Int64} (hl : its.length ≤ 60) (e : Zf t = nI its.length) (hit : ∀ i x, its[i]? = some x → If (60 * t + i) = x) (v : Int32) : ∀ (m q : Nat), q + m = (els S).length → R (d + 1) 239 24 [some (.ref 76), some (.int (nI t)), some (.int v), some (.int (nI (els S).length)), some (.int (nI q))] [] h (fun r2 h2 => r2 = some (.int (jdF its v ((els S).drop q) q)) ∧ h2 = h) := by
  have kC9 := co_MO_judge
  have hel : (els S).length ≤ 32 := by rw [els_len]; exact cnt_le _ _
  intro m
  induction m with
  | zero =>
    intro q hq
    rw [List.drop_eq_nil_of_le (by omega)]
    repeat (refine R_s kC9 rfl rfl ?_)
    refine R_ge kC9 rfl (rfl) (rfl) (by omega) (by omega) (fun hc => ?_) (fun hc => ?_)
    · repeat (refine R_s kC9 rfl rfl ?_)
      exact R_ri kC9 rfl ⟨rfl, rfl⟩
    · omega
  | succ m ih =>
    intro q hq
    repeat (refine R_s kC9 rfl rfl ?_)
    refine R_ge kC9 rfl (rfl) (rfl) (by omega) (by omega) (fun hc => ?_) (fun hc => ?_)
    · omega
    · obtain ⟨s, hs⟩ : ∃ s, (els S)[q]? = some s := ⟨(els S)[q], List.getElem?_eq_getElem hc⟩
      rw [drop_cons hs, jdF_cons]
      have no : (v.toInt < 0 ∨ (its.length : Int) - v.toInt ≤ q) → R (d + 1) 239 37 [some (.ref 76), some (.int (nI t)), some (.int v), some (.int (nI (els S).length)), some (.int (nI q))] [] h (fun r2 h2 => r2 = some (.int (if v.toInt < 0 ∨ (its.length : Int) - v.toInt ≤ q then nI (100 + q) else if its.getD (v.toNatClampNeg + q) 0 = (nI s).toInt64 then jdF its v ((els S).drop (q + 1)) (q + 1) else nI q)) ∧ h2 = h) := by
        intro z
        rw [if_pos z]
        repeat (refine R_s kC9 rfl rfl ?_)
        exact R_ri kC9 rfl ⟨ri_eq (nI_add 100 q), rfl⟩
      have e0 : (0 : Int32).toInt = 0 := by decide
      repeat (refine R_s kC9 rfl rfl ?_)
      refine Zr_lt kC9 rfl (fun z => no (Or.inl (by rw [Int32.lt_iff_toInt_lt, e0] at z; exact z))) (fun z1 => ?_)
      obtain ⟨i, i1, rfl⟩ := nI_of z1
      repeat (refine R_s kC9 rfl rfl ?_)
      refine R_get kC9 rfl (ho) rfl ?_
      repeat (refine R_s kC9 rfl rfl ?_)
      refine R_ild kC9 rfl (hz) (rfl) (ht) (by decide) ?_
      rw [e]
      repeat (refine R_s kC9 rfl rfl ?_)
      refine Rr_lt kC9 rfl (fun z => ?_) (fun z => no (Or.inr (by rw [Int32.lt_iff_toInt_lt, sub_ti (by omega) i1, nI_toInt (by omega)] at z; rw [nI_toInt i1]; omega)))
      rw [Int32.lt_iff_toInt_lt, sub_ti (by omega) i1, nI_toInt (by omega)] at z
      rw [if_neg (by rw [nI_toInt i1]; omega), nI_clamp i1]
      have hlt : i + q < its.length := by omega
      repeat (refine R_s kC9 rfl rfl ?_)
      refine R_get kC9 rfl (ho) rfl ?_
      repeat (refine R_s kC9 rfl rfl ?_)
      refine R_lld kC9 rfl hi (by decide) (k := 60 * t + (i + q)) (show nI 60 * nI t + nI i + nI q = _ by rw [pk_mul, nI_add, nI_add, Nat.add_assoc]) (by omega) (by decide) ?_
      rw [hit _ _ (List.getElem?_eq_getElem hlt), List.getD_eq_getElem?_getD, List.getElem?_eq_getElem hlt]
      repeat (refine R_s kC9 rfl rfl ?_)
      refine R_cv kC9 rfl rfl rfl rfl (ho) (by decide) (sp_MO_family d ho hg hS (nI q)) ?_
      rw [fam_els hb0 (by omega) hs]
      repeat (refine R_s kC9 rfl rfl ?_)
      refine Zr_eq kC9 rfl (fun z => ?_) (fun z => ?_)
      · rw [lg_eq0] at z
        rw [if_pos (show (some its[i + q]).getD 0 = _ from z)]
        repeat (refine R_s kC9 rfl rfl ?_)
        refine R_g kC9 rfl ?_
        refine (show R (d + 1) 239 24 [some (.ref 76), some (.int (nI t)), some (.int (nI i)), some (.int (nI (els S).length)), some (.int (nI q + nI 1))] [] h _ from ?_)
        rw [nI_add]
        exact ih (q + 1) (by omega)
      · rw [lg_eq0] at z
        rw [if_neg (show ¬ (some its[i + q]).getD 0 = _ from z)]
        repeat (refine R_s kC9 rfl rfl ?_)
        exact R_ri kC9 rfl ⟨rfl, rfl⟩
theorem sp_MO_judge (d : Nat) (ho : h.2 76 = mob k fed pl le fi co) (hg : h.2 77 = ints 106 G) (hs : h.2 92 = ints 6 Sf) (hz : h.2 93 = ints 6 Zf) (hi : h.2 94 = longs 360 If) {S : Int32} (hS : ∀ s, s < 32 → G (1 + s) = b2i (bt S s)) (hb0 : bt S 0 = false) (hT : TPM T Sf Zf If) (hok : TPok T) (t i : Int32) : Cl (d + 2) 239 [.ref 76, .int t, .int i] h (some (.int (judgeR T S t i))) h := by
  have kC9 := co_MO_judge
  refine Cl_of kC9 rfl rfl ?_
  unfold judgeR
  repeat (refine R_s kC9 rfl rfl ?_)
  refine R_cs kC9 rfl rfl rfl rfl (sp_MO_isTape d t) ?_
  refine ZB_ne kC9 rfl (fun hc => ?_) (fun hc => ?_)
  · rw [if_pos hc]
    obtain ⟨t, ht, rfl⟩ := tpI_of hc
    rw [nI_clamp (by omega)]
    obtain ⟨a1, a2, a3⟩ := hT t ht
    obtain ⟨b1, b2⟩ := hok t ht
    have go : R (d + 2) 239 19 [some (.ref 76), some (.int (nI t)), some (.int i), none, none] [] h (fun r2 h2 => r2 = some (.int (jdF (T t).2 i (els S) 0)) ∧ h2 = h) := by
      repeat (refine R_s kC9 rfl rfl ?_)
      refine R_cv kC9 rfl rfl rfl rfl (ho) (by decide) (sp_MO_sets (d + 1) ho hg hS hb0) ?_
      iterate 3 (refine R_s kC9 rfl rfl ?_)
      exact lp_judge (d + 1) ho hg hz hi hS hb0 ht b1 a2 a3 i _ 0 (Nat.zero_add _)
    repeat (refine R_s kC9 rfl rfl ?_)
    refine R_get kC9 rfl (ho) rfl ?_
    repeat (refine R_s kC9 rfl rfl ?_)
    refine R_ild kC9 rfl (hs) (rfl) (ht) (by decide) ?_
    rw [a1]
    repeat (refine R_s kC9 rfl rfl ?_)
    refine Rr_eq kC9 rfl (fun q => ?_) (fun q => ?_)
    · rw [if_neg (fun z => z.1 q)]
      exact go
    · repeat (refine R_s kC9 rfl rfl ?_)
      refine R_get kC9 rfl (ho) rfl ?_
      repeat (refine R_s kC9 rfl rfl ?_)
      refine R_ild kC9 rfl (hs) (rfl) (ht) (by decide) ?_
      rw [a1]
      repeat (refine R_s kC9 rfl rfl ?_)
      refine Rr_eq kC9 rfl (fun q2 => ?_) (fun q2 => ?_)
      · rw [if_neg (fun z => z.2 q2)]
        exact go
      · rw [if_pos ⟨q, q2⟩]
        repeat (refine R_s kC9 rfl rfl ?_)
        exact R_ri kC9 rfl ⟨rfl, rfl⟩
  · rw [if_neg (by rw [hc]; decide)]
    repeat (refine R_s kC9 rfl rfl ?_)
    exact R_ri kC9 rfl ⟨rfl, rfl⟩
theorem sp_MO_common (d : Nat) : ∀ (m a b : Nat), b < 2 ^ m → a < 2 ^ 31 → b < 2 ^ 31 → Cl (d + 2 * m) 229 [.int (nI a), .int (nI b)] h (some (.int (nI (Nat.gcd a b)))) h
  | 0, a, b, hb, ha, hb31 => by
    have : b = 0 := by omega
    subst this
    have kC9 := co_MO_common
    refine Cl_of kC9 rfl rfl ?_
    repeat (refine R_s kC9 rfl rfl ?_)
    refine Z_ne kC9 rfl rfl (by omega) (fun q => absurd rfl q) (fun _ => ?_)
    repeat (refine R_s kC9 rfl rfl ?_)
    refine R_g kC9 rfl ?_
    exact R_ri kC9 rfl ⟨by rw [Nat.gcd_zero_right], rfl⟩
  | m + 1, a, b, hb, ha, hb31 => by
    by_cases hb0 : b = 0
    · subst hb0
      have kC9 := co_MO_common
      refine Cl_of kC9 rfl rfl ?_
      repeat (refine R_s kC9 rfl rfl ?_)
      refine Z_ne kC9 rfl rfl (by omega) (fun q => absurd rfl q) (fun _ => ?_)
      repeat (refine R_s kC9 rfl rfl ?_)
      refine R_g kC9 rfl ?_
      exact R_ri kC9 rfl ⟨by rw [Nat.gcd_zero_right], rfl⟩
    · have hr : a % b < b := Nat.mod_lt _ (by omega)
      have inner : Cl (d + 2 * m + 1) 229 [.int (nI b), .int (nI (a % b))] h (some (.int (nI (Nat.gcd b (a % b))))) h := by
        by_cases hr0 : a % b = 0
        · rw [hr0]
          have kC9 := co_MO_common
          refine Cl_of kC9 rfl rfl ?_
          repeat (refine R_s kC9 rfl rfl ?_)
          refine Z_ne kC9 rfl rfl (by omega) (fun q => absurd rfl q) (fun _ => ?_)
          repeat (refine R_s kC9 rfl rfl ?_)
          refine R_g kC9 rfl ?_
          exact R_ri kC9 rfl ⟨by rw [Nat.gcd_zero_right], rfl⟩
        · have hrr : b % (a % b) < a % b := Nat.mod_lt _ (by omega)
          have hsum : a % b + b % (a % b) ≤ b := by
            have h1 := Nat.div_add_mod b (a % b)
            have h2 : 1 ≤ b / (a % b) := (Nat.le_div_iff_mul_le (by omega)).mpr (by omega)
            have h3 : (a % b) * 1 ≤ (a % b) * (b / (a % b)) := Nat.mul_le_mul_left _ h2
            omega
          have hp : 2 ^ (m + 1) = 2 * 2 ^ m := by rw [Nat.pow_succ]; omega
          have ih := sp_MO_common d m (a % b) (b % (a % b)) (by omega) (by omega) (by omega)
          have kC9 := co_MO_common
          refine Cl_of kC9 rfl rfl ?_
          repeat (refine R_s kC9 rfl rfl ?_)
          refine Z_ne kC9 rfl rfl (by omega) (fun _ => ?_) (fun q => absurd q hr0)
          repeat (refine R_s kC9 rfl rfl ?_)
          refine R_rem kC9 rfl (fun q => ?_) ?_
          · have := (nI_eq (a := a % b) (b := 0) (by omega) (by omega)).mp q
            omega
          rw [pk_rem hb31 (by omega) (by omega)]
          refine R_cs kC9 rfl rfl rfl rfl ih ?_
          refine R_ri kC9 rfl ⟨?_, rfl⟩
          rw [gcd_st]
      have kC9 := co_MO_common
      refine Cl_of kC9 rfl rfl ?_
      repeat (refine R_s kC9 rfl rfl ?_)
      refine Z_ne kC9 rfl rfl (by omega) (fun _ => ?_) (fun q => absurd q hb0)
      repeat (refine R_s kC9 rfl rfl ?_)
      refine R_rem kC9 rfl (fun q => ?_) ?_
      · have := (nI_eq (a := b) (b := 0) (by omega) (by omega)).mp q
        omega
      rw [pk_rem ha (by omega) hb31]
      refine R_cs kC9 rfl rfl rfl rfl inner ?_
      refine R_ri kC9 rfl ⟨?_, rfl⟩
      rw [gcd_st]
end
theorem GU.fam {U : US} {G G' : Nat → Int32} (hU : GU U G) (hr : RowsOK U) {S' : Int32} {ch' : List Nat} (b0 : G' 0 = G 0) (bS : ∀ s, s < 32 → G' (1 + s) = b2i (bt S' s)) (b58 : G' 58 = nI ch'.length ∧ ∀ i x, ch'[i]? = some x → G' (59 + i) = nI x) (bq : ∀ q, 33 ≤ q → q < 58 ∨ 63 ≤ q → G' q = G q) : GU (U.1, S', U.2.2.1, ch', U.2.2.2.2) G' :=
  ⟨b0.trans hU.1, bS, fun q hq => by rw [bq _ (by omega) (by omega)]; exact hU.2.2.1 q hq, b58, hU.2.2.2.2.1.congr (by have := hr.2.1; omega) (fun q h1 _ => bq q (by omega) (by omega)), hU.2.2.2.2.2.1.congr hr.2.2.1 (fun q h1 _ => bq q (by omega) (by omega)), hU.2.2.2.2.2.2.congr hr.2.2.2 (fun q h1 _ => bq q (by omega) (by omega))⟩
theorem GU.line {U : US} {G : Nat → Int32} (hU : GU U G) {x y : Nat} (hx : x < 5) (hy : y < 5) (hxy : x ≠ y) (v : Bool) : GU (U.1, U.2.1, setL U.2.2.1 x y v, U.2.2.2) (upd G (33 + lnX x y) (b2i v)) := by
  have hlx : lnX x y < 25 := by unfold lnX; split <;> omega
  have hq1 : lnX x y / 5 < lnX x y % 5 := by unfold lnX; split <;> omega
  have hq2 : lnX x y = 5 * x + y ∨ lnX x y = 5 * y + x := by unfold lnX; split <;> omega
  refine ⟨by rw [pk_un (by omega)]; exact hU.1, fun s hs => by rw [pk_un (by omega)]; exact hU.2.1 s hs, fun q hq => ?_, ⟨by rw [pk_un (by omega)]; exact hU.2.2.2.1.1, fun i z hz => by rw [pk_un (by omega)]; exact hU.2.2.2.1.2 i z hz⟩, ⟨by rw [pk_un (by omega)]; exact hU.2.2.2.2.1.1, fun i z hz => by rw [pk_un (by omega), pk_un (by omega)]; exact hU.2.2.2.2.1.2 i z hz⟩, ⟨by rw [pk_un (by omega)]; exact hU.2.2.2.2.2.1.1, fun i z hz => by rw [pk_un (by omega), pk_un (by omega)]; exact hU.2.2.2.2.2.1.2 i z hz⟩, ⟨by rw [pk_un (by omega)]; exact hU.2.2.2.2.2.2.1, fun i z hz => by rw [pk_un (by omega), pk_un (by omega)]; exact hU.2.2.2.2.2.2.2 i z hz⟩⟩
  dsimp only
  unfold setL
  rw [maskOf_bt _ (by omega)]
  by_cases eq1 : q = lnX x y
  · subst eq1
    rw [pk_us, decide_eq_true hq1, Bool.true_and, if_pos hq2]
  · rw [pk_un (by omega), hU.2.2.1 q hq]
    by_cases hor : q / 5 < q % 5
    · rw [if_neg]
      rintro (q1 | q1)
      · apply eq1; unfold lnX; split <;> omega
      · apply eq1; unfold lnX; split <;> omega
    · rw [decide_eq_false hor]; rfl
/-- an event happens -/
noncomputable def evU (U : US) (j m : Nat) : US := if j = 0 then (specComes U (nI m)).2 else if j = 1 then (specGoes U (nI m)).2 else if j = 2 then (specMake U (nI m)).2 else if twoB U.1 (nI (m / 10)) (nI (m % 10)) = true then (U.1, U.2.1, setL U.2.2.1 (m / 10) (m % 10) (!lnB U.2.2.1 (m / 10) (m % 10)), U.2.2.2) else U
section
variable {h : AH} {k fed pl le fi co : Int32} {G : Nat → Int32} {U : US}
theorem sp_MO_happens (d : Nat) (ho : h.2 76 = mob k fed pl le fi co) (hg : h.2 77 = ints 106 G) (hU : GU U G) (hr : RowsOK U) (hF : Fam U.1 U.2.1) {j m : Nat} (hj : (j < 2 ∧ 1 ≤ m ∧ m < 32) ∨ (j = 2 ∧ m ≤ 6) ∨ (j = 3 ∧ m ≤ 99)) : ∃ G', GU (evU U j m) G' ∧ Cl (d + 4) 233 [.ref 76, .int (nI j), .int (nI m)] h none (upH h 77 (ints 106 G')) := by
  have kC9 := co_MO_happens
  have hn := hF.2.1
  have hn1 : 1 ≤ U.1 := by have := hF.1; omega
  refine Cl_ex (f := fun _ => none) (g := fun G' => upH h 77 (ints 106 G')) kC9 rfl rfl ?_
  have j4 : j = 0 ∨ j = 1 ∨ j = 2 ∨ j = 3 := by omega
  rcases j4 with rfl | rfl | rfl | rfl
  · have e : evU U 0 m = (specComes U (nI m)).2 := rfl
    rw [e]
    have out : ∀ (h' : AH) (P : Option Value → AH → Prop), P none h' → R (d + 4) 233 9 [some (.ref 76), some (.int (nI 0)), some (.int (nI m)), none] [] h' P := by
      intro h' P hP
      repeat (refine R_s kC9 rfl rfl ?_)
      refine R_ne kC9 rfl (u := 0) (v := 1) rfl rfl (by decide) (by decide) (fun _ => ?_) (fun q => absurd q (by decide))
      repeat (refine R_s kC9 rfl rfl ?_)
      refine R_ne kC9 rfl (u := 0) (v := 2) rfl rfl (by decide) (by decide) (fun _ => ?_) (fun q => absurd q (by decide))
      repeat (refine R_s kC9 rfl rfl ?_)
      refine R_ne kC9 rfl (u := 0) (v := 3) rfl rfl (by decide) (by decide) (fun _ => ?_) (fun q => absurd q (by decide))
      exact R_rv kC9 rfl hP
    unfold specComes
    repeat (refine R_s kC9 rfl rfl ?_)
    refine Z_ne kC9 rfl (u := 0) rfl (by decide) (fun q => absurd rfl q) (fun _ => ?_)
    repeat (refine R_s kC9 rfl rfl ?_)
    refine R_cv kC9 rfl rfl rfl rfl (ho) (by decide) (sp_MO_isSet (d + 2) ho hg hn hU.1 (nI m)) ?_
    refine ZB_eq kC9 rfl (fun hc => ?_) (fun hc => ?_)
    · rw [if_neg (by rw [hc]; decide)]
      exact out h _ ⟨G, hU, rfl, (upH_self hg).symm⟩
    · rw [if_pos hc, nI_clamp (by omega)]
      obtain ⟨G', ⟨bS, b0, b58, bq⟩, hcl⟩ := sp_MO_joins (d + 2) ho hg hU.2.1 (c := m) (by omega)
      repeat (refine R_s kC9 rfl rfl ?_)
      refine R_cv kC9 rfl rfl rfl rfl ho (by decide) hcl ?_
      refine out _ _ ⟨G', hU.fam hr b0 bS ?_ (fun q q1 q2 => bq q q1 (by omega)), rfl, rfl⟩
      cases hb : bt U.2.1 m with
      | true =>
        rw [hb, if_pos rfl] at b58
        rw [if_pos rfl]
        refine ⟨by rw [b58]; exact hU.2.2.2.1.1, fun i x hx => ?_⟩
        rw [bq _ (by omega) (by omega)]
        exact hU.2.2.2.1.2 i x hx
      | false =>
        rw [hb, if_neg (by decide)] at b58
        rw [if_neg (by decide)]
        exact ⟨b58, fun i x hx => by simp at hx⟩
  · have e : evU U 1 m = (specGoes U (nI m)).2 := rfl
    rw [e]
    have out : ∀ (h' : AH) (w : Option Value) (P : Option Value → AH → Prop), P none h' → R (d + 4) 233 20 [some (.ref 76), some (.int (nI 1)), some (.int (nI m)), w] [] h' P := by
      intro h' w P hP
      repeat (refine R_s kC9 rfl rfl ?_)
      refine R_ne kC9 rfl (u := 1) (v := 2) rfl rfl (by decide) (by decide) (fun _ => ?_) (fun q => absurd q (by decide))
      repeat (refine R_s kC9 rfl rfl ?_)
      refine R_ne kC9 rfl (u := 1) (v := 3) rfl rfl (by decide) (by decide) (fun _ => ?_) (fun q => absurd q (by decide))
      exact R_rv kC9 rfl hP
    unfold specGoes
    repeat (refine R_s kC9 rfl rfl ?_)
    refine Z_ne kC9 rfl (u := 1) rfl (by decide) (fun _ => ?_) (fun q => absurd q (by decide))
    repeat (refine R_s kC9 rfl rfl ?_)
    refine R_ne kC9 rfl (u := 1) (v := 1) rfl rfl (by decide) (by decide) (fun q => absurd rfl q) (fun _ => ?_)
    repeat (refine R_s kC9 rfl rfl ?_)
    refine R_cv kC9 rfl rfl rfl rfl (ho) (by decide) (sp_MO_isThere (d + 1) ho hg hn hU.1 hU.2.1 (nI m)) ?_
    refine ZB_eq kC9 rfl (fun hc => ?_) (fun hc => ?_)
    · rw [if_neg (by rw [hc]; decide)]
      exact out h _ _ ⟨G, hU, rfl, (upH_self hg).symm⟩
    · rw [if_pos hc, nI_clamp (by omega)]
      have hv2 := hc
      unfold inF at hv2
      rw [Bool.and_eq_true, nI_clamp (by omega)] at hv2
      have hlet := sp_MO_isLet (d + 2) ho hg hn hU.1 hU.2.1 (c := m) (by omega) hv2.2
      repeat (refine R_s kC9 rfl rfl ?_)
      refine R_cv kC9 rfl rfl rfl rfl ho (by decide) hlet ?_
      iterate 1 (refine R_s kC9 rfl rfl ?_)
      cases hl : letB U.1 U.2.1 m with
      | true =>
        rw [if_pos rfl, if_pos rfl]
        have bS : ∀ s, s < 32 → (upd (upd G (1 + m) (nI 0)) 58 (nI 0)) (1 + s) = b2i (bt (delM U.2.1 m) s) := by
          intro s hs
          rw [pk_un (by omega), delM_bt _ hs]
          by_cases e2 : s = m
          · subst e2; rw [pk_us, decide_eq_true rfl]; simp; rfl
          · rw [pk_un (by omega), hU.2.1 s hs, decide_eq_false e2]; simp
        exact out _ _ _ ⟨_, hU.fam hr (by rw [pk_un (by omega), pk_un (by omega)]) bS ⟨pk_us, fun i x hx => by simp at hx⟩ (fun q q1 q2 => by rw [pk_un (by omega), pk_un (by omega)]), rfl, rfl⟩
      | false =>
        rw [if_neg (by decide), if_neg (by decide)]
        exact out _ _ _ ⟨G, hU, rfl, rfl⟩
  · have e : evU U 2 m = (specMake U (nI m)).2 := rfl
    rw [e]
    have hm6 : m ≤ 6 := by omega
    unfold specMake
    rw [if_pos (by rw [nI_toInt (by omega)]; omega), nI_clamp (by omega)]
    obtain ⟨G', ⟨b0, bS, b58, bq⟩, hcl⟩ := sp_MO_makes d ho hg hn hU.1 hU.ln (c := m) (by omega)
    repeat (refine R_s kC9 rfl rfl ?_)
    refine Z_ne kC9 rfl (u := 2) rfl (by decide) (fun _ => ?_) (fun q => absurd q (by decide))
    repeat (refine R_s kC9 rfl rfl ?_)
    refine R_ne kC9 rfl (u := 2) (v := 1) rfl rfl (by decide) (by decide) (fun _ => ?_) (fun q => absurd q (by decide))
    repeat (refine R_s kC9 rfl rfl ?_)
    refine R_ne kC9 rfl (u := 2) (v := 2) rfl rfl (by decide) (by decide) (fun q => absurd rfl q) (fun _ => ?_)
    repeat (refine R_s kC9 rfl rfl ?_)
    refine R_cv kC9 rfl rfl rfl rfl ho (by decide) hcl ?_
    repeat (refine R_s kC9 rfl rfl ?_)
    refine R_ne kC9 rfl (u := 2) (v := 3) rfl rfl (by decide) (by decide) (fun _ => ?_) (fun q => absurd q (by decide))
    exact R_rv kC9 rfl ⟨G', hU.fam hr (b0.trans hU.1.symm) bS ⟨b58, fun i x hx => by simp at hx⟩ (fun q q1 q2 => bq q q1 (by omega)), rfl, rfl⟩
  · have e : evU U 3 m = if twoB U.1 (nI (m / 10)) (nI (m % 10)) = true then (U.1, U.2.1, setL U.2.2.1 (m / 10) (m % 10) (!lnB U.2.2.1 (m / 10) (m % 10)), U.2.2.2) else U := rfl
    rw [e]
    have hm99 : m ≤ 99 := by omega
    have ed : nI m / nI 10 = nI (m / 10) := pk_div (by omega) (by omega) (by omega)
    have er : nI m - nI m / nI 10 * nI 10 = nI (m % 10) := pk_rem (by omega) (by omega) (by omega)
    have z10 : ¬ (nI 10 : Int32) = 0 := by decide
    repeat (refine R_s kC9 rfl rfl ?_)
    refine Z_ne kC9 rfl (u := 3) rfl (by decide) (fun _ => ?_) (fun q => absurd q (by decide))
    repeat (refine R_s kC9 rfl rfl ?_)
    refine R_ne kC9 rfl (u := 3) (v := 1) rfl rfl (by decide) (by decide) (fun _ => ?_) (fun q => absurd q (by decide))
    repeat (refine R_s kC9 rfl rfl ?_)
    refine R_ne kC9 rfl (u := 3) (v := 2) rfl rfl (by decide) (by decide) (fun _ => ?_) (fun q => absurd q (by decide))
    repeat (refine R_s kC9 rfl rfl ?_)
    refine R_ne kC9 rfl (u := 3) (v := 3) rfl rfl (by decide) (by decide) (fun q => absurd rfl q) (fun _ => ?_)
    repeat (refine R_s kC9 rfl rfl ?_)
    refine R_div kC9 rfl z10 ?_
    rw [ed]
    repeat (refine R_s kC9 rfl rfl ?_)
    refine R_rem kC9 rfl z10 ?_
    rw [er]
    refine R_cv kC9 rfl rfl rfl rfl (ho) (by decide) (sp_MO_areTwo (d + 1) ho hg hn hn1 hU.1 (nI (m / 10)) (nI (m % 10))) ?_
    refine ZB_eq kC9 rfl (fun hc => ?_) (fun hc => ?_)
    · rw [if_neg (by rw [hc]; decide)]
      exact R_rv kC9 rfl ⟨G, hU, rfl, (upH_self hg).symm⟩
    · rw [if_pos hc]
      have h2' := hc
      unfold twoB at h2'
      simp only [Bool.and_eq_true, Bool.not_eq_true', decide_eq_false_iff_not] at h2'
      obtain ⟨⟨ha, hb⟩, hne⟩ := h2'
      rw [ptB_nI (by omega), decide_eq_true_eq] at ha hb
      have hxy : m / 10 ≠ m % 10 := fun q => hne (by rw [q])
      obtain ⟨hlx, hq1⟩ := lnX_or (x := m / 10) (y := m % 10) (by omega) (by omega) hxy
      have eG : G (33 + lnX (m / 10) (m % 10)) = b2i (lnB U.2.2.1 (m / 10) (m % 10)) := by
        rw [hU.2.2.1 _ hlx, decide_eq_true hq1, Bool.true_and]
        rfl
      have ex : b2i (lnB U.2.2.1 (m / 10) (m % 10)) ^^^ nI 1 = b2i (!lnB U.2.2.1 (m / 10) (m % 10)) := by cases lnB U.2.2.1 (m / 10) (m % 10) <;> decide
      repeat (refine R_s kC9 rfl rfl ?_)
      refine R_get kC9 rfl (ho) rfl ?_
      repeat (refine R_s kC9 rfl rfl ?_)
      refine R_div kC9 rfl z10 ?_
      rw [ed]
      repeat (refine R_s kC9 rfl rfl ?_)
      refine R_rem kC9 rfl z10 ?_
      rw [er]
      refine R_cv kC9 rfl rfl rfl rfl (ho) (by decide) (sp_MO_lineAt (d + 3) (by omega) (by omega)) ?_
      repeat (refine R_s kC9 rfl rfl ?_)
      refine R_ild kC9 rfl (hg) (rfl) (by omega) (by decide) ?_
      rw [eG]
      iterate 2 (refine R_s kC9 rfl rfl ?_)
      refine (show R (d + 4) 233 52 _ [.int (b2i (lnB U.2.2.1 (m / 10) (m % 10)) ^^^ nI 1), .int (nI (33 + lnX (m / 10) (m % 10))), .ref 77] h _ from ?_)
      rw [ex]
      refine R_ist kC9 rfl (hg) (by decide) (rfl) (by omega) (by decide) ?_
      exact R_rv kC9 rfl ⟨_, hU.line (by omega) (by omega) hxy _, rfl, rfl⟩
end
