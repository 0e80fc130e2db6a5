/-! THE CLASS, 29: NestedBodies: what is told -/
/-- what the mathematics owes of a family -/
def FG (n : Nat) (S : Int32) : Prop := Fam n S ∧ c120 n S ∧ flU n S ∧ faOK n S ∧ farN n S < 2 ^ 31 ∧ 1 ≤ (cornS n S).length ∧ (∀ c, c < (cornS n S).length → fcN n / szN n (crL n S c) = orN n S c) ∧ ∀ s, bt S s = true → s < 2 ^ n - 1 → hvF (nI 1 <<< (nI s &&& 31)) (cornM n S) 0 ≠ none
section
variable {h h' : AH} {U K V : US} {im : Bool} {tx : List Nat} {T : TPS}
theorem NBI.bp (hI : NBI h U K im tx T) (hG : FG U.1 U.2.1) : ∃ b, BP h 32 5 U.1 U.2.1 U.2.2.1 b := by
  obtain ⟨b, B, iv⟩ := hI.2.2.2.2.1
  exact ⟨b, B, hG.1, hG.2.1, hG.2.2.1, iv⟩
theorem NBI.bo (hI : NBI h U K im tx T) : ∃ b : BoS, h.2 32 = bob 32 5 b.bs b.ar b.fa (nI b.co) := by
  obtain ⟨b, B, iv⟩ := hI.2.2.2.2.1
  exact ⟨b, B.ob⟩
theorem NBI.bq (hI : NBI h U K im tx T) (q : BQ h 32 5 U.1 U.2.1 U.2.2.1 h') : NQ h U K im tx T h' := by
  obtain ⟨b, x, B, iv⟩ := q
  exact ⟨x.mono (by omega) (by omega), hI.body x ⟨b, B, iv⟩⟩
theorem NQ.tr {h2 : AH} (a : NQ h U K im tx T h2) {U' K' : US} {im' : Bool} {tx' : List Nat} {T' : TPS} {h3 : AH} (b : NQ h2 U' K' im' tx' T' h3) : NQ h U' K' im' tx' T' h3 := ⟨a.1.trans b.1, b.2⟩
theorem nb_family (d : Nat) (hI : NBI h U K im tx T) (v : Int32) : Cl (d + 1) 102 [.ref 3, .int v] h (some (.int (famR U.2.1 v))) h := by
  have kC9 := co_NB_family
  refine Cl_of kC9 rfl rfl ?_
  unfold famR
  repeat (refine R_s kC9 rfl rfl ?_)
  refine Zr_ge kC9 rfl (fun hd => ?_) (fun hd => ?_)
  · have h0 : ¬ v < 0 := by rw [tI_lt, tI_0]; rw [tI_le, tI_0] at hd; omega
    rw [if_neg h0]
    obtain ⟨k, hk, rfl⟩ := nI_of h0
    rw [nI_clamp hk]
    repeat (refine R_s kC9 rfl rfl ?_)
    refine R_get kC9 rfl (hI.ob) rfl ?_
    refine R_get kC9 rfl (hI.st.2.1) rfl ?_
    refine R_get kC9 rfl (hI.st.2.2.1.2) rfl ?_
    repeat (refine R_s kC9 rfl rfl ?_)
    refine R_cs kC9 rfl rfl rfl rfl (sp_NB_nthOf d U.2.1 hk) ?_
    exact R_ri kC9 rfl ⟨rfl, rfl⟩
  · rw [if_pos (by rw [tI_lt, tI_0]; rw [tI_le, tI_0] at hd; omega)]
    repeat (refine R_s kC9 rfl rfl ?_)
    refine R_g kC9 rfl ?_
    exact R_ri kC9 rfl ⟨rfl, rfl⟩
theorem sw04 {v : Int32} : v = 0 ∨ v = 1 ∨ v = 2 ∨ v = 3 ∨ ((v.toInt < 0 ∨ 3 < v.toInt) ∧ v ≠ 0 ∧ v ≠ 1 ∧ v ≠ 2 ∧ v ≠ 3) := sw4 (by omega)
theorem nb_of (d : Nat) (hI : NBI h U K im tx T) (hF : Fam U.1 U.2.1) (v w : Int32) : Cl (d + 3) 103 [.ref 3, .int v, .int w] h (some (.int (ofR U.1 U.2.1 v w))) h := by
  have kC9 := co_NB_of
  refine Cl_of kC9 rfl rfl ?_
  have hn := hF.2.1
  unfold ofR
  repeat (refine R_s kC9 rfl rfl ?_)
  refine R_get kC9 rfl (hI.ob) rfl ?_
  refine R_get kC9 rfl (hI.st.2.1) rfl ?_
  repeat (refine R_s kC9 rfl rfl ?_)
  refine R_cv kC9 rfl rfl rfl rfl hI.st.2.2.1.2 (by omega) (sp_FA_isSet (d + 1) hI.st.2.2.1 hn v) ?_
  refine ZB_ne kC9 rfl (fun hd => ?_) (fun hd => ?_)
  · rw [if_pos hd]
    obtain ⟨s, s1, s2, s3, rfl⟩ := setB_of hn hd
    rw [nI_clamp (by omega)]
    repeat (refine R_s kC9 rfl rfl ?_)
    rcases sw04 (v := w) with rfl | rfl | rfl | rfl | ⟨ho, n0, n1, n2, n3⟩
    · rw [if_pos rfl]
      refine R_sw kC9 rfl (t := 10) rfl ?_
      repeat (refine R_s kC9 rfl rfl ?_)
      refine R_get kC9 rfl (hI.ob) rfl ?_
      refine R_get kC9 rfl (hI.st.2.1) rfl ?_
      repeat (refine R_s kC9 rfl rfl ?_)
      refine R_cv kC9 rfl rfl rfl rfl hI.st.2.2.1.2 (by omega) (sp_FA_holds d hI.st.2.2.1 hn (nI s)) ?_
      rw [inF_nI (by omega), decide_eq_true (show 1 ≤ s ∧ s < 2 ^ U.1 from ⟨s1, s2⟩), Bool.true_and]
      refine ZB_eq kC9 rfl (fun he => ?_) (fun he => ?_)
      · repeat (refine R_s kC9 rfl rfl ?_)
        exact R_ri kC9 rfl ⟨ri_eq (b2i_f he), rfl⟩
      · repeat (refine R_s kC9 rfl rfl ?_)
        refine R_g kC9 rfl ?_
        exact R_ri kC9 rfl ⟨ri_eq (b2i_t he), rfl⟩
    · rw [if_neg (by decide), if_pos rfl]
      refine R_sw kC9 rfl (t := 20) rfl ?_
      repeat (refine R_s kC9 rfl rfl ?_)
      refine R_get kC9 rfl (hI.ob) rfl ?_
      refine R_get kC9 rfl (hI.st.2.1) rfl ?_
      refine R_get kC9 rfl (hI.st.2.2.1.2) rfl ?_
      repeat (refine R_s kC9 rfl rfl ?_)
      refine R_cs kC9 rfl rfl rfl rfl (sp_NB_within (d + 2) hI.h0 s3) ?_
      repeat (refine R_s kC9 rfl rfl ?_)
      refine R_cs kC9 rfl rfl rfl rfl (sp_JI_bitCount (d + 2) h _) ?_
      refine R_ri kC9 rfl ⟨ri_eq ?_, rfl⟩
      congr 1
      apply cnt_congr
      intro i hi
      unfold wthB wiM
      rw [b_and, maskOf_bt _ hi]
      by_cases e : i = 0
      · subst e; rw [hF.b0]; rfl
      · rw [decide_eq_true (show 1 ≤ i by omega), Bool.true_and]
    · rw [if_neg (by decide), if_neg (by decide), if_pos rfl]
      refine R_sw kC9 rfl (t := 29) rfl ?_
      repeat (refine R_s kC9 rfl rfl ?_)
      refine R_get kC9 rfl (hI.ob) rfl ?_
      refine R_get kC9 rfl (hI.st.2.1) rfl ?_
      repeat (refine R_s kC9 rfl rfl ?_)
      refine R_cv kC9 rfl rfl rfl rfl hI.st.2.2.1.2 (by omega) (sp_FA_partsOf (d + 1) hI.st.2.2.1 hI.h0 hF.b0 s3) ?_
      refine R_cs kC9 rfl rfl rfl rfl (sp_JI_bitCount (d + 2) h _) ?_
      refine R_ri kC9 rfl ⟨ri_eq ?_, rfl⟩
      congr 1
      exact cnt_congr 32 (fun i hi => maskOf_bt _ hi)
    · rw [if_neg (by decide), if_neg (by decide), if_neg (by decide), if_pos rfl]
      refine R_sw kC9 rfl (t := 36) rfl ?_
      repeat (refine R_s kC9 rfl rfl ?_)
      refine R_cs kC9 rfl rfl rfl rfl (sp_JI_bitCount (d + 2) h _) ?_
      rw [pc_cnt s s3]
      exact R_ri kC9 rfl ⟨rfl, rfl⟩
    · rw [if_neg n0, if_neg n1, if_neg n2, if_neg n3]
      refine R_sw kC9 rfl (t := 39) (by rw [if_pos ho]; rfl) ?_
      repeat (refine R_s kC9 rfl rfl ?_)
      exact R_ri kC9 rfl ⟨rfl, rfl⟩
  · rw [if_neg (by rw [hd]; decide)]
    repeat (refine R_s kC9 rfl rfl ?_)
    exact R_ri kC9 rfl ⟨rfl, rfl⟩
theorem nb_part (d : Nat) (hI : NBI h U K im tx T) (hF : Fam U.1 U.2.1) (v w : Int32) : Cl (d + 2) 104 [.ref 3, .int v, .int w] h (some (.int (partR U.1 U.2.1 v w))) h := by
  have kC9 := co_NB_part
  refine Cl_of kC9 rfl rfl ?_
  have hn := hF.2.1
  unfold partR
  repeat (refine R_s kC9 rfl rfl ?_)
  refine R_get kC9 rfl (hI.ob) rfl ?_
  refine R_get kC9 rfl (hI.st.2.1) rfl ?_
  repeat (refine R_s kC9 rfl rfl ?_)
  refine R_cv kC9 rfl rfl rfl rfl hI.st.2.2.1.2 (by omega) (sp_FA_isSet d hI.st.2.2.1 hn v) ?_
  refine ZB_eq kC9 rfl (fun hd => ?_) (fun hd => ?_)
  · rw [if_neg (fun z => by rw [hd] at z; cases z.1)]
    repeat (refine R_s kC9 rfl rfl ?_)
    exact R_ri kC9 rfl ⟨rfl, rfl⟩
  · repeat (refine R_s kC9 rfl rfl ?_)
    refine Zr_ge kC9 rfl (fun he => ?_) (fun he => ?_)
    · have h0 : ¬ w < 0 := by rw [tI_lt, tI_0]; rw [tI_le, tI_0] at he; omega
      rw [if_pos ⟨hd, h0⟩]
      obtain ⟨s, s1, s2, s3, rfl⟩ := setB_of hn hd
      obtain ⟨k, hk, rfl⟩ := nI_of h0
      rw [nI_clamp (by omega), nI_clamp hk]
      repeat (refine R_s kC9 rfl rfl ?_)
      refine R_get kC9 rfl (hI.ob) rfl ?_
      refine R_get kC9 rfl (hI.st.2.1) rfl ?_
      repeat (refine R_s kC9 rfl rfl ?_)
      refine R_cv kC9 rfl rfl rfl rfl hI.st.2.2.1.2 (by omega) (sp_FA_partsOf d hI.st.2.2.1 hI.h0 hF.b0 s3) ?_
      repeat (refine R_s kC9 rfl rfl ?_)
      refine R_cs kC9 rfl rfl rfl rfl (sp_NB_nthOf (d + 1) _ hk) ?_
      refine R_ri kC9 rfl ⟨ri_eq ?_, rfl⟩
      exact nthF_congr _ _ _ (fun i _ hi => maskOf_bt _ (by omega))
    · rw [if_neg (fun z => z.2 (by rw [tI_lt, tI_0]; rw [tI_le, tI_0] at he; omega))]
      repeat (refine R_s kC9 rfl rfl ?_)
      exact R_ri kC9 rfl ⟨rfl, rfl⟩
theorem line_half {n : Nat} {Lm : Int32} (hL : Lin n Lm) : cnt (bt Lm) 32 / 2 = lineN Lm := by
  have z : ∀ q, q < 32 → 25 ≤ q → bt Lm q = false := fun q h1 h2 => by
    cases hb : bt Lm q with
    | false => rfl
    | true => have := (hL.1 q h1 hb).1; omega
  have dg : ∀ a, a < 5 → bt Lm (5 * a + a) = false := fun a ha => by
    cases hb : bt Lm (5 * a + a) with
    | false => rfl
    | true => have := (hL.1 _ (by omega) hb).2.2.2; omega
  have sy := hL.2
  unfold lineN
  simp only [cnt_succ, cnt]
  rw [z 25 (by omega) (by omega), z 26 (by omega) (by omega), z 27 (by omega) (by omega), z 28 (by omega) (by omega), z 29 (by omega) (by omega), z 30 (by omega) (by omega), z 31 (by omega) (by omega)]
  have d0 := dg 0 (by omega)
  have d1 := dg 1 (by omega)
  have d2 := dg 2 (by omega)
  have d3 := dg 3 (by omega)
  have d4 := dg 4 (by omega)
  have s01 := sy 0 1 (by omega) (by omega)
  have s02 := sy 0 2 (by omega) (by omega)
  have s03 := sy 0 3 (by omega) (by omega)
  have s04 := sy 0 4 (by omega) (by omega)
  have s12 := sy 1 2 (by omega) (by omega)
  have s13 := sy 1 3 (by omega) (by omega)
  have s14 := sy 1 4 (by omega) (by omega)
  have s23 := sy 2 3 (by omega) (by omega)
  have s24 := sy 2 4 (by omega) (by omega)
  have s34 := sy 3 4 (by omega) (by omega)
  simp only [Nat.mul_zero, Nat.zero_add, Nat.mul_one, Nat.reduceMul, Nat.reduceAdd] at d0 d1 d2 d3 d4 s01 s02 s03 s04 s12 s13 s14 s23 s24 s34
  rw [d0, d1, d2, d3, d4, ← s01, ← s02, ← s03, ← s04, ← s12, ← s13, ← s14, ← s23, ← s24, ← s34]
  simp
  omega
theorem nb_chosen (d : Nat) (hI : NBI h U K im tx T) (v : Int32) : Cl (d + 1) 106 [.ref 3, .int v] h (some (.int (chosenR U.2.2.2.1 v))) h := by
  have kC9 := co_NB_chosen
  refine Cl_of kC9 rfl rfl ?_
  have hR := hI.st.2.2.2.1
  have hl4 : (chR U.2.2.2.1).length = U.2.2.2.1.length := List.length_map ..
  have hle := hR.1
  rw [hl4] at hle
  unfold chosenR
  repeat (refine R_s kC9 rfl rfl ?_)
  refine Zr_ge kC9 rfl (fun hd => ?_) (fun hd => ?_)
  · have h0 : ¬ v < 0 := by rw [tI_lt, tI_0]; rw [tI_le, tI_0] at hd; omega
    rw [if_neg h0]
    obtain ⟨k, hk, rfl⟩ := nI_of h0
    rw [nI_clamp hk]
    repeat (refine R_s kC9 rfl rfl ?_)
    refine R_get kC9 rfl (hI.ob) rfl ?_
    refine R_get kC9 rfl (hI.st.2.1) rfl ?_
    refine R_get kC9 rfl (hR.2.2.2.1) rfl ?_
    rw [hl4]
    refine R_ge kC9 rfl (rfl) (rfl) (by omega) (by omega) (fun hc => ?_) (fun hc => ?_)
    · rw [List.getElem?_eq_none hc]
      repeat (refine R_s kC9 rfl rfl ?_)
      exact R_ri kC9 rfl ⟨rfl, rfl⟩
    · have hx : U.2.2.2.1[k]? = some U.2.2.2.1[k] := List.getElem?_eq_getElem hc
      have hx2 : (chR U.2.2.2.1)[k]? = some (nI U.2.2.2.1[k], (0 : Int32)) := by rw [List.getElem?_map, hx]; rfl
      rw [hx]
      repeat (refine R_s kC9 rfl rfl ?_)
      refine R_get kC9 rfl (hI.ob) rfl ?_
      refine R_get kC9 rfl (hI.st.2.1) rfl ?_
      repeat (refine R_s kC9 rfl rfl ?_)
      refine R_cv kC9 rfl rfl rfl rfl hR.2.2.2.1 (by omega) (cl_RO_firstAt d hR hx2) ?_
      refine R_g kC9 rfl ?_
      exact R_ri kC9 rfl ⟨rfl, rfl⟩
  · rw [if_pos (by rw [tI_lt, tI_0]; rw [tI_le, tI_0] at hd; omega)]
    repeat (refine R_s kC9 rfl rfl ?_)
    exact R_ri kC9 rfl ⟨rfl, rfl⟩
theorem nb_isSize (d : Nat) (hI : NBI h U K im tx T) (hn : U.1 ≤ 5) (v : Int32) : Cl d 134 [.ref 3, .int v] h (some (.int (b2i (itI U.1 v)))) h := by
  have kC9 := co_NB_isSize
  refine Cl_of kC9 rfl rfl ?_
  have en : (nI U.1).toInt = (U.1 : Int) := nI_toInt (by omega)
  repeat (refine R_s kC9 rfl rfl ?_)
  refine Zr_lt kC9 rfl (fun hc => ?_) (fun hc => ?_)
  · rw [tI_lt, tI_0] at hc
    repeat (refine R_s kC9 rfl rfl ?_)
    exact R_rz kC9 rfl (Or.inl rfl) ⟨ri_eq (b2i_f (decide_eq_false (by omega))), rfl⟩
  · rw [tI_lt, tI_0] at hc
    repeat (refine R_s kC9 rfl rfl ?_)
    refine R_get kC9 rfl (hI.ob) rfl ?_
    refine R_get kC9 rfl (hI.st.2.1) rfl ?_
    refine R_get kC9 rfl (hI.st.2.2.1.2) rfl ?_
    refine Rr_ge kC9 rfl (fun hd => ?_) (fun hd => ?_)
    · rw [tI_le] at hd
      repeat (refine R_s kC9 rfl rfl ?_)
      exact R_rz kC9 rfl (Or.inl rfl) ⟨ri_eq (b2i_f (decide_eq_false (by omega))), rfl⟩
    · rw [tI_le] at hd
      repeat (refine R_s kC9 rfl rfl ?_)
      refine R_g kC9 rfl ?_
      exact R_rz kC9 rfl (Or.inr rfl) ⟨ri_eq (b2i_t (decide_eq_true (by omega))), rfl⟩
theorem nb_isInCorner (d : Nat) (hI : NBI h U K im tx T) (hn : U.1 ≤ 5) (hn1 : 1 ≤ U.1) (v : Int32) : Cl d 135 [.ref 3, .int v] h (some (.int (b2i (itI (U.1 - 1) v)))) h := by
  have kC9 := co_NB_isInCorner
  refine Cl_of kC9 rfl rfl ?_
  have en : (nI (U.1 - 1)).toInt = ((U.1 - 1 : Nat) : Int) := nI_toInt (by omega)
  repeat (refine R_s kC9 rfl rfl ?_)
  refine Zr_lt kC9 rfl (fun hc => ?_) (fun hc => ?_)
  · rw [tI_lt, tI_0] at hc
    repeat (refine R_s kC9 rfl rfl ?_)
    exact R_rz kC9 rfl (Or.inl rfl) ⟨ri_eq (b2i_f (decide_eq_false (by omega))), rfl⟩
  · rw [tI_lt, tI_0] at hc
    repeat (refine R_s kC9 rfl rfl ?_)
    refine R_get kC9 rfl (hI.ob) rfl ?_
    refine R_get kC9 rfl (hI.st.2.1) rfl ?_
    refine R_get kC9 rfl (hI.st.2.2.1.2) rfl ?_
    repeat (refine R_s kC9 rfl rfl ?_)
    refine (show R d 135 9 [some (.ref 3), some (.int v)] [.int (nI U.1 - nI 1), .int v] h _ from ?_)
    rw [pk_sub hn1]
    refine Rr_ge kC9 rfl (fun hd => ?_) (fun hd => ?_)
    · rw [tI_le] at hd
      repeat (refine R_s kC9 rfl rfl ?_)
      exact R_rz kC9 rfl (Or.inl rfl) ⟨ri_eq (b2i_f (decide_eq_false (by omega))), rfl⟩
    · rw [tI_le] at hd
      repeat (refine R_s kC9 rfl rfl ?_)
      refine R_g kC9 rfl ?_
      exact R_rz kC9 rfl (Or.inr rfl) ⟨ri_eq (b2i_t (decide_eq_true (by omega))), rfl⟩
theorem nb_nests (d : Nat) (hI : NBI h U K im tx T) (hG : FG U.1 U.2.1) (v : Int32) : ∃ h', NQ h U K im tx T h' ∧ Cl (d + 9) 107 [.ref 3, .int v] h (some (.int (nestsR U.1 U.2.1 v))) h' := by
  have kC9 := co_NB_nests
  have hn := hG.1.2.1
  refine Cl_eH kC9 rfl rfl ?_
  unfold nestsR
  repeat (refine R_s kC9 rfl rfl ?_)
  refine R_cv kC9 rfl rfl rfl rfl hI.ob (by omega) (nb_isSize (d + 8) hI hn v) ?_
  refine ZB_eq kC9 rfl (fun hd => ?_) (fun hd => ?_)
  · rw [if_neg (by rw [hd]; decide)]
    repeat (refine R_s kC9 rfl rfl ?_)
    exact R_ri kC9 rfl ⟨rfl, NQ.rfl' hI⟩
  · rw [if_pos hd]
    obtain ⟨k, k1, k2, rfl⟩ := itI_of hd
    rw [nI_clamp k2]
    obtain ⟨b, hb⟩ := hI.bp hG
    obtain ⟨h2, q2, c2⟩ := sp_BO_nestCount d hb (k := k) (by omega)
    repeat (refine R_s kC9 rfl rfl ?_)
    refine R_get kC9 rfl (hI.ob) rfl ?_
    repeat (refine R_s kC9 rfl rfl ?_)
    refine R_cv kC9 rfl rfl rfl rfl hb.1.ob (by omega) c2 ?_
    refine R_g kC9 rfl ?_
    exact R_ri kC9 rfl ⟨rfl, hI.bq q2⟩
theorem nb_risen (d : Nat) (hI : NBI h U K im tx T) (hG : FG U.1 U.2.1) (v : Int32) : ∃ h', NQ h U K im tx T h' ∧ Cl (d + 10) 108 [.ref 3, .int v] h (some (.int (risenR U.1 U.2.1 v))) h' := by
  have kC9 := co_NB_risen
  have hn := hG.1.2.1
  refine Cl_eH kC9 rfl rfl ?_
  unfold risenR
  repeat (refine R_s kC9 rfl rfl ?_)
  refine R_cv kC9 rfl rfl rfl rfl hI.ob (by omega) (nb_isSize (d + 9) hI hn v) ?_
  refine ZB_eq kC9 rfl (fun hd => ?_) (fun hd => ?_)
  · rw [if_neg (by rw [hd]; decide)]
    repeat (refine R_s kC9 rfl rfl ?_)
    exact R_ri kC9 rfl ⟨rfl, NQ.rfl' hI⟩
  · rw [if_pos hd]
    obtain ⟨b, hb⟩ := hI.bp hG
    obtain ⟨h2, q2, c2⟩ := sp_BO_countRisen d hb v
    repeat (refine R_s kC9 rfl rfl ?_)
    refine R_get kC9 rfl (hI.ob) rfl ?_
    repeat (refine R_s kC9 rfl rfl ?_)
    refine R_cv kC9 rfl rfl rfl rfl hb.1.ob (by omega) c2 ?_
    refine R_g kC9 rfl ?_
    exact R_ri kC9 rfl ⟨rfl, hI.bq q2⟩
theorem nb_at (d : Nat) (hI : NBI h U K im tx T) (hG : FG U.1 U.2.1) (v w : Int32) : ∃ h', NQ h U K im tx T h' ∧ Cl (d + 10) 109 [.ref 3, .int v, .int w] h (some (.int (atR U.1 U.2.1 v w))) h' := by
  have kC9 := co_NB_at
  have hn := hG.1.2.1
  refine Cl_eH kC9 rfl rfl ?_
  unfold atR
  obtain ⟨b, hb⟩ := hI.bp hG
  obtain ⟨h2, q2, c2⟩ := sp_BO_isCorner (d + 1) hb v
  have Q2 := hI.bq q2
  have I2 := Q2.2
  repeat (refine R_s kC9 rfl rfl ?_)
  refine R_get kC9 rfl (hI.ob) rfl ?_
  repeat (refine R_s kC9 rfl rfl ?_)
  refine R_cv kC9 rfl rfl rfl rfl hb.1.ob (by omega) c2 ?_
  refine ZB_eq kC9 rfl (fun hd => ?_) (fun hd => ?_)
  · rw [hd, Bool.false_and, if_neg (by decide)]
    repeat (refine R_s kC9 rfl rfl ?_)
    exact R_ri kC9 rfl ⟨rfl, Q2⟩
  · rw [hd, Bool.true_and]
    repeat (refine R_s kC9 rfl rfl ?_)
    refine R_get kC9 rfl I2.ob rfl ?_
    refine R_get kC9 rfl I2.st.2.1 rfl ?_
    repeat (refine R_s kC9 rfl rfl ?_)
    refine R_cv kC9 rfl rfl rfl rfl I2.st.2.2.1.2 (by omega) (sp_FA_isPoint (d + 9) I2.st.2.2.1 hn w) ?_
    refine ZB_ne kC9 rfl (fun he => ?_) (fun he => ?_)
    · rw [if_pos he]
      obtain ⟨c, c1, c2', rfl⟩ := itI_of hd
      obtain ⟨p, p1, p2, rfl⟩ := ptB_of he
      rw [nI_clamp c2', nI_clamp p2]
      obtain ⟨b2, hb2⟩ := I2.bp hG
      obtain ⟨h3, q3, c3⟩ := sp_BO_standsAt d hb2 c1 p1
      repeat (refine R_s kC9 rfl rfl ?_)
      refine R_get kC9 rfl I2.ob rfl ?_
      repeat (refine R_s kC9 rfl rfl ?_)
      refine R_cv kC9 rfl rfl rfl rfl hb2.1.ob (by omega) c3 ?_
      exact R_ri kC9 rfl ⟨rfl, Q2.tr (I2.bq q3)⟩
    · rw [he, if_neg (by decide)]
      repeat (refine R_s kC9 rfl rfl ?_)
      exact R_ri kC9 rfl ⟨rfl, Q2⟩
theorem nb_set (d : Nat) (hI : NBI h U K im tx T) (hG : FG U.1 U.2.1) (v w : Int32) : ∃ h', NQ h U K im tx T h' ∧ Cl (d + 10) 110 [.ref 3, .int v, .int w] h (some (.int (setR U.1 U.2.1 v w))) h' := by
  have kC9 := co_NB_set
  have hn := hG.1.2.1
  have hn2 := hG.1.1
  refine Cl_eH kC9 rfl rfl ?_
  unfold setR
  obtain ⟨b, hb⟩ := hI.bp hG
  obtain ⟨h2, q2, c2⟩ := sp_BO_isCorner (d + 1) hb v
  have Q2 := hI.bq q2
  have I2 := Q2.2
  repeat (refine R_s kC9 rfl rfl ?_)
  refine R_get kC9 rfl (hI.ob) rfl ?_
  repeat (refine R_s kC9 rfl rfl ?_)
  refine R_cv kC9 rfl rfl rfl rfl hb.1.ob (by omega) c2 ?_
  refine ZB_eq kC9 rfl (fun hd => ?_) (fun hd => ?_)
  · rw [hd, Bool.false_and, if_neg (by decide)]
    repeat (refine R_s kC9 rfl rfl ?_)
    exact R_ri kC9 rfl ⟨rfl, Q2⟩
  · rw [hd, Bool.true_and]
    repeat (refine R_s kC9 rfl rfl ?_)
    refine R_cv kC9 rfl rfl rfl rfl I2.ob (by omega) (nb_isInCorner (d + 9) I2 hn (by omega) w) ?_
    refine ZB_ne kC9 rfl (fun he => ?_) (fun he => ?_)
    · rw [if_pos he]
      obtain ⟨c, c1, c2', rfl⟩ := itI_of hd
      obtain ⟨p, p1, p2, rfl⟩ := itI_of he
      rw [nI_clamp c2', nI_clamp p2]
      obtain ⟨b2, hb2⟩ := I2.bp hG
      obtain ⟨h3, q3, c3⟩ := sp_BO_nestOf d hb2 c1
      obtain ⟨k1, k2, k3, k4, k5⟩ := crL_ok hn hn2 c1
      repeat (refine R_s kC9 rfl rfl ?_)
      refine R_get kC9 rfl I2.ob rfl ?_
      repeat (refine R_s kC9 rfl rfl ?_)
      refine R_cv kC9 rfl rfl rfl rfl hb2.1.ob (by omega) c3 ?_
      repeat (refine R_s kC9 rfl rfl ?_)
      refine R_cs kC9 rfl rfl rfl rfl (sp_NB_nthOf (d + 9) _ p2) ?_
      refine R_ri kC9 rfl ⟨ri_eq (nth_chM k3 (by omega)), Q2.tr (I2.bq q3)⟩
    · rw [he, if_neg (by decide)]
      repeat (refine R_s kC9 rfl rfl ?_)
      exact R_ri kC9 rfl ⟨rfl, Q2⟩
theorem nb_flip (d : Nat) (hI : NBI h U K im tx T) (hG : FG U.1 U.2.1) (v w : Int32) : ∃ h', NQ h U K im tx T h' ∧ Cl (d + 10) 111 [.ref 3, .int v, .int w] h (some (.int (flipR U.1 U.2.1 v w))) h' := by
  have kC9 := co_NB_flip
  have hn := hG.1.2.1
  have hn2 := hG.1.1
  refine Cl_eH kC9 rfl rfl ?_
  unfold flipR
  obtain ⟨b, hb⟩ := hI.bp hG
  obtain ⟨h2, q2, c2⟩ := sp_BO_isCorner (d + 1) hb v
  have Q2 := hI.bq q2
  have I2 := Q2.2
  repeat (refine R_s kC9 rfl rfl ?_)
  refine R_get kC9 rfl (hI.ob) rfl ?_
  repeat (refine R_s kC9 rfl rfl ?_)
  refine R_cv kC9 rfl rfl rfl rfl hb.1.ob (by omega) c2 ?_
  refine ZB_eq kC9 rfl (fun hd => ?_) (fun hd => ?_)
  · rw [hd, Bool.false_and, if_neg (by decide)]
    repeat (refine R_s kC9 rfl rfl ?_)
    exact R_ri kC9 rfl ⟨rfl, Q2⟩
  · rw [hd, Bool.true_and]
    repeat (refine R_s kC9 rfl rfl ?_)
    refine R_cv kC9 rfl rfl rfl rfl I2.ob (by omega) (nb_isInCorner (d + 9) I2 hn (by omega) w) ?_
    refine ZB_ne kC9 rfl (fun he => ?_) (fun he => ?_)
    · rw [if_pos he]
      obtain ⟨c, c1, c2', rfl⟩ := itI_of hd
      obtain ⟨p, p1, p2, rfl⟩ := itI_of he
      rw [nI_clamp c2', nI_clamp p2]
      obtain ⟨b2, hb2⟩ := I2.bp hG
      obtain ⟨h3, q3, c3⟩ := sp_BO_flipOf d hb2 c1 p1
      repeat (refine R_s kC9 rfl rfl ?_)
      refine R_get kC9 rfl I2.ob rfl ?_
      repeat (refine R_s kC9 rfl rfl ?_)
      refine R_cv kC9 rfl rfl rfl rfl hb2.1.ob (by omega) c3 ?_
      exact R_ri kC9 rfl ⟨rfl, Q2.tr (I2.bq q3)⟩
    · rw [he, if_neg (by decide)]
      repeat (refine R_s kC9 rfl rfl ?_)
      exact R_ri kC9 rfl ⟨rfl, Q2⟩
theorem nb_steps (d : Nat) (hI : NBI h U K im tx T) (hG : FG U.1 U.2.1) (v w : Int32) : ∃ h', NQ h U K im tx T h' ∧ Cl (d + 10) 113 [.ref 3, .int v, .int w] h (some (.int (stepsR U.1 U.2.1 v w))) h' := by
  have kC9 := co_NB_steps
  have hn := hG.1.2.1
  refine Cl_eH kC9 rfl rfl ?_
  unfold stepsR
  obtain ⟨b, hb⟩ := hI.bp hG
  obtain ⟨h2, q2, c2⟩ := sp_BO_isCorner (d + 1) hb v
  have Q2 := hI.bq q2
  have I2 := Q2.2
  repeat (refine R_s kC9 rfl rfl ?_)
  refine R_get kC9 rfl (hI.ob) rfl ?_
  repeat (refine R_s kC9 rfl rfl ?_)
  refine R_cv kC9 rfl rfl rfl rfl hb.1.ob (by omega) c2 ?_
  refine ZB_eq kC9 rfl (fun hd => ?_) (fun hd => ?_)
  · rw [hd, Bool.false_and, if_neg (by decide)]
    repeat (refine R_s kC9 rfl rfl ?_)
    exact R_ri kC9 rfl ⟨rfl, Q2⟩
  · rw [hd, Bool.true_and]
    obtain ⟨b2, hb2⟩ := I2.bp hG
    obtain ⟨h3, q3, c3⟩ := sp_BO_isCorner (d + 1) hb2 w
    have Q3 := Q2.tr (I2.bq q3)
    have I3 := Q3.2
    repeat (refine R_s kC9 rfl rfl ?_)
    refine R_get kC9 rfl I2.ob rfl ?_
    repeat (refine R_s kC9 rfl rfl ?_)
    refine R_cv kC9 rfl rfl rfl rfl hb2.1.ob (by omega) c3 ?_
    refine ZB_ne kC9 rfl (fun he => ?_) (fun he => ?_)
    · rw [if_pos he]
      obtain ⟨c, c1, c2', rfl⟩ := itI_of hd
      obtain ⟨p, p1, p2, rfl⟩ := itI_of he
      rw [nI_clamp c2', nI_clamp p2]
      obtain ⟨b3, hb3⟩ := I3.bp hG
      obtain ⟨h4, q4, c4⟩ := sp_BO_stepsBetween d hb3 c1 p1
      repeat (refine R_s kC9 rfl rfl ?_)
      refine R_get kC9 rfl I3.ob rfl ?_
      repeat (refine R_s kC9 rfl rfl ?_)
      refine R_cv kC9 rfl rfl rfl rfl hb3.1.ob (by omega) c4 ?_
      exact R_ri kC9 rfl ⟨rfl, Q3.tr (I3.bq q4)⟩
    · rw [he, if_neg (by decide)]
      repeat (refine R_s kC9 rfl rfl ?_)
      exact R_ri kC9 rfl ⟨rfl, Q3⟩
theorem sw03 {v : Int32} : v = 0 ∨ v = 1 ∨ v = 2 ∨ ((v.toInt < 0 ∨ 2 < v.toInt) ∧ v ≠ 0 ∧ v ≠ 1 ∧ v ≠ 2) := by
  by_cases e0 : v = 0
  · exact Or.inl e0
  · by_cases e1 : v = 1
    · exact Or.inr (Or.inl e1)
    · by_cases e2 : v = 2
      · exact Or.inr (Or.inr (Or.inl e2))
      · refine Or.inr (Or.inr (Or.inr ⟨?_, e0, e1, e2⟩))
        have i0 : v.toInt ≠ 0 := fun z => e0 (Int32.toInt_inj.mp (by rw [z]; rfl))
        have i1 : v.toInt ≠ 1 := fun z => e1 (Int32.toInt_inj.mp (by rw [z]; rfl))
        have i2 : v.toInt ≠ 2 := fun z => e2 (Int32.toInt_inj.mp (by rw [z]; rfl))
        omega
theorem nb_corner (d : Nat) (hI : NBI h U K im tx T) (hG : FG U.1 U.2.1) (v w : Int32) : ∃ h', NQ h U K im tx T h' ∧ Cl (d + 10) 112 [.ref 3, .int v, .int w] h (some (.int (cornerR U.1 U.2.1 v w))) h' := by
  have kC9 := co_NB_corner
  have hn := hG.1.2.1
  refine Cl_eH kC9 rfl rfl ?_
  unfold cornerR
  obtain ⟨b, hb⟩ := hI.bp hG
  obtain ⟨h2, q2, c2⟩ := sp_BO_isCorner (d + 1) hb v
  have Q2 := hI.bq q2
  have I2 := Q2.2
  repeat (refine R_s kC9 rfl rfl ?_)
  refine R_get kC9 rfl (hI.ob) rfl ?_
  repeat (refine R_s kC9 rfl rfl ?_)
  refine R_cv kC9 rfl rfl rfl rfl hb.1.ob (by omega) c2 ?_
  refine ZB_ne kC9 rfl (fun hd => ?_) (fun hd => ?_)
  · rw [if_pos hd]
    obtain ⟨c, c1, c2', rfl⟩ := itI_of hd
    rw [nI_clamp c2']
    obtain ⟨b2, hb2⟩ := I2.bp hG
    repeat (refine R_s kC9 rfl rfl ?_)
    rcases sw03 (v := w) with rfl | rfl | rfl | ⟨ho, n0, n1, n2⟩
    · rw [if_pos rfl]
      obtain ⟨h3, q3, c3⟩ := sp_BO_risesOf d hb2 c1
      refine R_sw kC9 rfl (t := 9) rfl ?_
      repeat (refine R_s kC9 rfl rfl ?_)
      refine R_get kC9 rfl I2.ob rfl ?_
      repeat (refine R_s kC9 rfl rfl ?_)
      refine R_cv kC9 rfl rfl rfl rfl hb2.1.ob (by omega) c3 ?_
      exact R_ri kC9 rfl ⟨rfl, Q2.tr (I2.bq q3)⟩
    · rw [if_neg (by decide), if_pos rfl]
      obtain ⟨h3, q3, c3⟩ := sp_BO_ordersTo d hb2 c1
      rw [hG.2.2.2.2.2.2.1 c c1] at c3
      refine R_sw kC9 rfl (t := 14) rfl ?_
      repeat (refine R_s kC9 rfl rfl ?_)
      refine R_get kC9 rfl I2.ob rfl ?_
      repeat (refine R_s kC9 rfl rfl ?_)
      refine R_cv kC9 rfl rfl rfl rfl hb2.1.ob (by omega) c3 ?_
      exact R_ri kC9 rfl ⟨rfl, Q2.tr (I2.bq q3)⟩
    · rw [if_neg (by decide), if_neg (by decide), if_pos rfl]
      obtain ⟨h3, q3, c3⟩ := sp_BO_worthOf d hb2 c1
      refine R_sw kC9 rfl (t := 19) rfl ?_
      repeat (refine R_s kC9 rfl rfl ?_)
      refine R_get kC9 rfl I2.ob rfl ?_
      repeat (refine R_s kC9 rfl rfl ?_)
      refine R_cv kC9 rfl rfl rfl rfl hb2.1.ob (by omega) c3 ?_
      exact R_ri kC9 rfl ⟨rfl, Q2.tr (I2.bq q3)⟩
    · rw [if_neg n0, if_neg n1, if_neg n2]
      refine R_sw kC9 rfl (t := 24) (by rw [if_pos ho]; rfl) ?_
      repeat (refine R_s kC9 rfl rfl ?_)
      exact R_ri kC9 rfl ⟨rfl, Q2⟩
  · rw [if_neg (by rw [hd]; decide)]
    repeat (refine R_s kC9 rfl rfl ?_)
    exact R_ri kC9 rfl ⟨rfl, Q2⟩
theorem hav_first {n : Nat} {S A : Int32} (h : hvF A (cornM n S) 0 ≠ none) : optI (hvF A (cornM n S) 0) = nI (havR n S A true (cornM n S) 0 0) := by
  unfold havR
  rw [if_pos rfl]
  cases hq : hvF A (cornM n S) 0 with
  | none => exact absurd hq h
  | some c => rfl
theorem hav_cnt {n : Nat} {S A : Int32} : hvN A (cornM n S) = havR n S A false (cornM n S) 0 0 := by
  unfold havR
  rw [if_neg (by decide), Nat.zero_add]
theorem nb_face (d : Nat) (hI : NBI h U K im tx T) (hG : FG U.1 U.2.1) (v w : Int32) : ∃ h', NQ h U K im tx T h' ∧ Cl (d + 10) 114 [.ref 3, .int v, .int w] h (some (.int (faceR U.1 U.2.1 v w))) h' := by
  have kC9 := co_NB_face
  have hn := hG.1.2.1
  have p5 := pow5 hn
  refine Cl_eH kC9 rfl rfl ?_
  unfold faceR
  repeat (refine R_s kC9 rfl rfl ?_)
  refine R_get kC9 rfl (hI.ob) rfl ?_
  refine R_get kC9 rfl (hI.st.2.1) rfl ?_
  repeat (refine R_s kC9 rfl rfl ?_)
  refine R_cv kC9 rfl rfl rfl rfl hI.st.2.2.1.2 (by omega) (sp_FA_isFace (d + 6) hI.st.2.2.1 hn v) ?_
  refine ZB_ne kC9 rfl (fun hd => ?_) (fun hd => ?_)
  · rw [hd, Bool.true_and]
    rw [Bool.and_eq_true, Bool.not_eq_true', decide_eq_false_iff_not] at hd
    have hv := hd.1
    unfold inF at hv
    rw [Bool.and_eq_true] at hv
    obtain ⟨s, s1, s2, s3, rfl⟩ := setB_of hn hv.1
    rw [nI_clamp (by omega)] at hv ⊢
    have hsw : s < 2 ^ U.1 - 1 := by
      have : s ≠ 2 ^ U.1 - 1 := fun e => hd.2 (by rw [e])
      omega
    obtain ⟨b, hb⟩ := hI.bp hG
    repeat (refine R_s kC9 rfl rfl ?_)
    rcases sw03 (v := w) with rfl | rfl | rfl | ⟨ho, n0, n1, n2⟩
    · rw [if_pos (by decide), if_neg (by decide)]
      obtain ⟨h3, q3, c3⟩ := sp_BO_countOn d hb (nI 1 <<< (nI s &&& 31))
      rw [hav_cnt] at c3
      refine R_sw kC9 rfl (t := 10) rfl ?_
      repeat (refine R_s kC9 rfl rfl ?_)
      refine R_get kC9 rfl (hI.ob) rfl ?_
      repeat (refine R_s kC9 rfl rfl ?_)
      refine R_cv kC9 rfl rfl rfl rfl hb.1.ob (by omega) c3 ?_
      exact R_ri kC9 rfl ⟨rfl, hI.bq q3⟩
    · rw [if_pos (by decide), if_neg (by decide)]
      obtain ⟨h3, q3, c3⟩ := sp_BO_firstOn d hb (nI 1 <<< (nI s &&& 31))
      rw [hav_first (hG.2.2.2.2.2.2.2 s hv.2 hsw)] at c3
      refine R_sw kC9 rfl (t := 17) rfl ?_
      repeat (refine R_s kC9 rfl rfl ?_)
      refine R_get kC9 rfl (hI.ob) rfl ?_
      repeat (refine R_s kC9 rfl rfl ?_)
      refine R_cv kC9 rfl rfl rfl rfl hb.1.ob (by omega) c3 ?_
      exact R_ri kC9 rfl ⟨rfl, hI.bq q3⟩
    · rw [if_pos (by decide), if_pos rfl]
      obtain ⟨h3, q3, c3⟩ := sp_BO_leastOver d hb s3
      have e : fI (lsO (fun c => smS s (crow U.1 U.2.1 c) U.1) (cornS U.1 U.2.1).length) = optI (lsO (fun c => smS s (crow U.1 U.2.1 c) U.1) (cornS U.1 U.2.1).length) := by
        have h1 := hG.2.2.2.2.2.1
        obtain ⟨m, hm⟩ : ∃ m, (cornS U.1 U.2.1).length = m + 1 := ⟨(cornS U.1 U.2.1).length - 1, by omega⟩
        rw [hm, lsO_succ]
        split
        · rfl
        · split <;> rfl
      rw [e] at c3
      refine R_sw kC9 rfl (t := 24) rfl ?_
      repeat (refine R_s kC9 rfl rfl ?_)
      refine R_get kC9 rfl (hI.ob) rfl ?_
      repeat (refine R_s kC9 rfl rfl ?_)
      refine R_cv kC9 rfl rfl rfl rfl hb.1.ob (by omega) c3 ?_
      exact R_ri kC9 rfl ⟨rfl, hI.bq q3⟩
    · rw [decide_eq_false (by omega), if_neg (by decide)]
      refine R_sw kC9 rfl (t := 29) (by rw [if_pos ho]; rfl) ?_
      repeat (refine R_s kC9 rfl rfl ?_)
      exact R_ri kC9 rfl ⟨rfl, NQ.rfl' hI⟩
  · rw [hd, Bool.false_and, if_neg (by decide)]
    repeat (refine R_s kC9 rfl rfl ?_)
    exact R_ri kC9 rfl ⟨rfl, NQ.rfl' hI⟩
theorem nb_told (d : Nat) (hI : NBI h U K im tx T) (hG : FG U.1 U.2.1) (hL : Lin U.1 U.2.2.1) (h32 : ∀ t ∈ U.2.2.2.1, t < 32) (hch : hvF (chM U.2.2.2.1) (cornM U.1 U.2.1) 0 ≠ none) (v : Int32) : ∃ h', NQ h U K im tx T h' ∧ Cl (d + 10) 105 [.ref 3, .int v] h (some (.int (toldR U v))) h' := by
  have kC9 := co_NB_told
  have hn := hG.1.2.1
  refine Cl_eH kC9 rfl rfl ?_
  unfold toldR
  obtain ⟨b, hb⟩ := hI.bp hG
  have hl4 : (chR U.2.2.2.1).length = U.2.2.2.1.length := List.length_map ..
  repeat (refine R_s kC9 rfl rfl ?_)
  rcases sw8 (v := v) with rfl | rfl | rfl | rfl | rfl | rfl | rfl | rfl | ⟨ho, n0, n1, n2, n3, n4, n5, n6, n7⟩
  · rw [if_pos rfl]
    refine R_sw kC9 rfl (t := 2) rfl ?_
    repeat (refine R_s kC9 rfl rfl ?_)
    refine R_get kC9 rfl (hI.ob) rfl ?_
    refine R_get kC9 rfl (hI.st.2.1) rfl ?_
    refine R_get kC9 rfl (hI.st.2.2.1.2) rfl ?_
    exact R_ri kC9 rfl ⟨rfl, NQ.rfl' hI⟩
  · rw [if_neg (by decide), if_pos rfl]
    refine R_sw kC9 rfl (t := 7) rfl ?_
    repeat (refine R_s kC9 rfl rfl ?_)
    refine R_get kC9 rfl (hI.ob) rfl ?_
    refine R_get kC9 rfl (hI.st.2.1) rfl ?_
    refine R_cv kC9 rfl rfl rfl rfl hI.st.2.2.1.2 (by omega) (sp_FA_size (d + 8) hI.st.2.2.1) ?_
    exact R_ri kC9 rfl ⟨rfl, NQ.rfl' hI⟩
  · rw [if_neg (by decide), if_neg (by decide), if_pos rfl]
    obtain ⟨h3, q3, c3⟩ := sp_BO_cornerCount (d + 1) hb
    refine R_sw kC9 rfl (t := 12) rfl ?_
    repeat (refine R_s kC9 rfl rfl ?_)
    refine R_get kC9 rfl (hI.ob) rfl ?_
    refine R_cv kC9 rfl rfl rfl rfl hb.1.ob (by omega) c3 ?_
    exact R_ri kC9 rfl ⟨rfl, hI.bq q3⟩
  · rw [if_neg (by decide), if_neg (by decide), if_neg (by decide), if_pos rfl]
    obtain ⟨h3, q3, c3⟩ := sp_BO_greatestSteps d hb hG.2.2.2.1 hG.2.2.2.2.1
    refine R_sw kC9 rfl (t := 16) rfl ?_
    repeat (refine R_s kC9 rfl rfl ?_)
    refine R_get kC9 rfl (hI.ob) rfl ?_
    refine R_cv kC9 rfl rfl rfl rfl hb.1.ob (by omega) c3 ?_
    exact R_ri kC9 rfl ⟨rfl, hI.bq q3⟩
  · rw [if_neg (by decide), if_neg (by decide), if_neg (by decide), if_neg (by decide), if_pos rfl]
    refine R_sw kC9 rfl (t := 20) rfl ?_
    repeat (refine R_s kC9 rfl rfl ?_)
    refine R_get kC9 rfl (hI.ob) rfl ?_
    refine R_get kC9 rfl (hI.st.2.1) rfl ?_
    refine R_cv kC9 rfl rfl rfl rfl hI.st.2.2.1.2 (by omega) (sp_FA_lineCount (d + 8) hI.st.2.2.1) ?_
    rw [line_half hL]
    exact R_ri kC9 rfl ⟨rfl, NQ.rfl' hI⟩
  · rw [if_neg (by decide), if_neg (by decide), if_neg (by decide), if_neg (by decide), if_neg (by decide), if_pos rfl]
    refine R_sw kC9 rfl (t := 25) rfl ?_
    repeat (refine R_s kC9 rfl rfl ?_)
    refine R_get kC9 rfl (hI.ob) rfl ?_
    refine R_get kC9 rfl (hI.st.2.1) rfl ?_
    refine R_get kC9 rfl (hI.st.2.2.2.1.2.2.2.1) rfl ?_
    rw [hl4]
    exact R_ri kC9 rfl ⟨rfl, NQ.rfl' hI⟩
  · rw [if_neg (by decide), if_neg (by decide), if_neg (by decide), if_neg (by decide), if_neg (by decide), if_neg (by decide), if_pos rfl]
    obtain ⟨h3, q3, c3⟩ := sp_BO_countOn d hb (chM U.2.2.2.1)
    rw [hav_cnt] at c3
    refine R_sw kC9 rfl (t := 30) rfl ?_
    repeat (refine R_s kC9 rfl rfl ?_)
    refine R_get kC9 rfl (hI.ob) rfl ?_
    repeat (refine R_s kC9 rfl rfl ?_)
    refine R_get kC9 rfl (hI.ob) rfl ?_
    refine R_cv kC9 rfl rfl rfl rfl hI.st.2.1 (by omega) (cl_SE_pickedNest (d + 8) hI.st h32) ?_
    refine R_cv kC9 rfl rfl rfl rfl hb.1.ob (by omega) c3 ?_
    exact R_ri kC9 rfl ⟨rfl, hI.bq q3⟩
  · rw [if_neg (by decide), if_neg (by decide), if_neg (by decide), if_neg (by decide), if_neg (by decide), if_neg (by decide), if_neg (by decide), if_pos rfl]
    obtain ⟨h3, q3, c3⟩ := sp_BO_firstOn d hb (chM U.2.2.2.1)
    rw [hav_first hch] at c3
    refine R_sw kC9 rfl (t := 37) rfl ?_
    repeat (refine R_s kC9 rfl rfl ?_)
    refine R_get kC9 rfl (hI.ob) rfl ?_
    repeat (refine R_s kC9 rfl rfl ?_)
    refine R_get kC9 rfl (hI.ob) rfl ?_
    refine R_cv kC9 rfl rfl rfl rfl hI.st.2.1 (by omega) (cl_SE_pickedNest (d + 8) hI.st h32) ?_
    refine R_cv kC9 rfl rfl rfl rfl hb.1.ob (by omega) c3 ?_
    exact R_ri kC9 rfl ⟨rfl, hI.bq q3⟩
  · rw [if_neg n0, if_neg n1, if_neg n2, if_neg n3, if_neg n4, if_neg n5, if_neg n6, if_neg n7]
    refine R_sw kC9 rfl (t := 44) (by rw [if_pos ho]; rfl) ?_
    repeat (refine R_s kC9 rfl rfl ?_)
    exact R_ri kC9 rfl ⟨rfl, NQ.rfl' hI⟩
end
