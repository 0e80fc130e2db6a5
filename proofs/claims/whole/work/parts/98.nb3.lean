/-! THE CLASS, 28: NestedBodies: clauses, read -/
/-- what the calls ask of a set-up -/
def CG (U : US) : Prop := Fam U.1 U.2.1 ∧ Lin U.1 U.2.2.1 ∧ chP U ∧ ch3 U
def GoodC (P : US → Prop) : Prop := (∀ U, P U → CG U) ∧ ∀ U c ds, P U → P (doCl U c ds).2
theorem okR_nlt {r : Int32} : okR r = true ↔ ¬ r < 0 := by
  unfold okR
  rw [Bool.not_eq_true', decide_eq_false_iff_not]
theorem dsF_len (tx : List Nat) (p : Nat) : (dsF tx p).length = clG tx p := by unfold dsF; rw [List.length_map, List.length_range]
theorem dsF_get {tx : List Nat} {p i : Nat} (hi : i < clG tx p) : (dsF tx p)[i]? = some (dgV tx (p + 1 + i)) := by
  unfold dsF
  rw [List.getElem?_map, List.getElem?_range hi]
  rfl
theorem dig_is {tx : List Nat} : ∀ (m q i : Nat), i < digN tx q m → isDg (hereF tx (q + i)) = true
  | 0, q, i, h => by cases h
  | m + 1, q, i, h => by
    rw [digN_succ] at h
    split at h
    · rename_i hd
      cases i with
      | zero => exact hd
      | succ i =>
        have := dig_is (tx := tx) m (q + 1) i (by omega)
        rw [show q + 1 + i = q + (i + 1) by omega] at this
        exact this
    · cases h
theorem cl_dig {tx : List Nat} {p i : Nat} (hi : i < clG tx p) : isDg (hereF tx (p + 1 + i)) = true := by
  unfold clG at hi
  split at hi
  · cases hi
  · exact dig_is _ _ _ hi
theorem clOk_of {tx : List Nat} {p : Nat} (h : clOk tx p = true) : ¬ mostF (hereF tx p) = 0 ∧ 0 < clG tx p ∧ (hereF tx p = nI 108 → clG tx p = 2) ∧ clE tx p = p + 1 + clG tx p := by
  unfold clOk at h
  simp only [Bool.and_eq_true, Bool.not_eq_true', decide_eq_false_iff_not, decide_eq_true_eq, Bool.or_eq_true] at h
  refine ⟨h.1, h.2.1, fun e => ?_, by unfold clE; rw [if_neg h.1]⟩
  rcases h.2.2 with z | z
  · exact absurd e z
  · exact z
section
variable {h h' : AH} {U K V : US} {im : Bool} {tx : List Nat} {T : TPS}
theorem nb_digit (d : Nat) (hI : NBI h U K im tx T) {p i : Nat} (hp : p + i < 1000) (hi : i < clG tx p) : Cl (d + 1) 25 [.ref 61, .int (nI (p + 1 + i))] h (some (.int (nI (dgV tx (p + 1 + i))))) h := by
  have := sp_TE_digitAt d hI.txt (i := p + 1 + i) (by omega)
  rw [if_pos (cl_dig hi)] at this
  exact this
theorem lc_toldS (d : Nat) (hI : NBI h U K im tx T) (hn : U.1 ≤ 5) {p : Nat} (hp : p < 900) (hg : clG tx p ≤ 5) : ∀ (m i acc : Nat) (w : Option Value), i + m = clG tx p → acc < 32 → (w = none ∨ ∃ x : Int32, w = some (.int x)) → R (d + 2) 142 4 [some (.ref 3), some (.int (nI (p + 1))), some (.int (nI (p + 1 + clG tx p))), some (.int (nI acc)), some (.int (nI (p + 1 + i))), w] [] h (fun r2 h2 => r2 = some (.int (nI (toldN U.1 ((dsF tx p).drop i) acc))) ∧ h2 = h) := by
  have kC9 := co_NB_toldSet
  intro m
  induction m with
  | zero =>
    intro i acc w hi ha hw
    rw [List.drop_eq_nil_of_le (by rw [dsF_len]; omega)]
    repeat (refine R_s kC9 rfl rfl ?_)
    refine R_ge kC9 rfl (rfl) (rfl) (by omega) (by omega) (fun hc => ?_) (fun hc => ?_)
    · repeat (refine R_s kC9 rfl rfl ?_)
      exact R_ri kC9 rfl ⟨rfl, rfl⟩
    · omega
  | succ m ih =>
    intro i acc w hi ha hw
    have hlt : i < clG tx p := by omega
    rw [drop_cons (dsF_get hlt), toldN_cons]
    have h9 : dgV tx (p + 1 + i) < 2 ^ 31 := by
      obtain ⟨o3, ho, F, hF, hx⟩ := hI.txt
      have := (hereF_dg hx.2.1 (cl_dig hlt)).2.2
      omega
    have body : R (d + 2) 142 12 [some (.ref 3), some (.int (nI (p + 1))), some (.int (nI (p + 1 + clG tx p))), some (.int (nI acc)), some (.int (nI (p + 1 + i))), some (.int (nI (dgV tx (p + 1 + i))))] [] h (fun r2 h2 => r2 = some (.int (nI (if dgV tx (p + 1 + i) < U.1 then toldN U.1 ((dsF tx p).drop (i + 1)) (acc ||| 2 ^ dgV tx (p + 1 + i)) else 0))) ∧ h2 = h) := by
      repeat (refine R_s kC9 rfl rfl ?_)
      refine R_get kC9 rfl (hI.ob) rfl ?_
      refine R_get kC9 rfl (hI.st.2.1) rfl ?_
      repeat (refine R_s kC9 rfl rfl ?_)
      refine R_cv kC9 rfl rfl rfl rfl hI.st.2.2.1.2 (by omega) (sp_FA_isPoint (d + 1) hI.st.2.2.1 hn _) ?_
      rw [ptB_nI h9]
      refine ZB_ne kC9 rfl (fun hd => ?_) (fun hd => ?_)
      · have hd1 := of_decide_eq_true hd
        rw [if_pos hd1]
        repeat (refine R_s kC9 rfl rfl ?_)
        refine R_g kC9 rfl ?_
        refine (show R (d + 2) 142 4 [some (.ref 3), some (.int (nI (p + 1))), some (.int (nI (p + 1 + clG tx p))), some (.int (nI acc ||| (nI 1 <<< (nI (dgV tx (p + 1 + i)) &&& 31)))), some (.int (nI (p + 1 + i) + nI 1)), some (.int (nI (dgV tx (p + 1 + i))))] [] h _ from ?_)
        rw [nI_shl (by omega), Nat.one_shiftLeft, nx_or, nI_add]
        exact ih (i + 1) _ _ (by omega) (Nat.or_lt_two_pow (n := 5) ha (Nat.pow_lt_pow_right (by omega) (by omega))) (Or.inr ⟨_, rfl⟩)
      · rw [if_neg (of_decide_eq_false hd)]
        repeat (refine R_s kC9 rfl rfl ?_)
        exact R_ri kC9 rfl ⟨rfl, rfl⟩
    repeat (refine R_s kC9 rfl rfl ?_)
    refine R_ge kC9 rfl (rfl) (rfl) (by omega) (by omega) (fun hc => ?_) (fun hc => ?_)
    · omega
    · repeat (refine R_s kC9 rfl rfl ?_)
      refine R_get kC9 rfl (hI.ob) rfl ?_
      repeat (refine R_s kC9 rfl rfl ?_)
      refine R_cv kC9 rfl rfl rfl rfl hI.txt.2.1 (by omega) (nb_digit d hI (by omega) hlt) ?_
      rcases hw with rfl | ⟨x, rfl⟩
      · iterate 1 (refine R_s kC9 rfl rfl ?_)
        exact body
      · iterate 1 (refine R_s kC9 rfl rfl ?_)
        exact body
theorem nb_toldSet (d : Nat) (hI : NBI h U K im tx T) (hn : U.1 ≤ 5) {p : Nat} (hp : p < 900) (hg : clG tx p ≤ 5) : Cl (d + 2) 142 [.ref 3, .int (nI (p + 1)), .int (nI (p + 1 + clG tx p))] h (some (.int (nI (toldN U.1 (dsF tx p) 0)))) h := by
  have kC9 := co_NB_toldSet
  refine Cl_of kC9 rfl rfl ?_
  iterate 4 (refine R_s kC9 rfl rfl ?_)
  exact lc_toldS d hI hn hp hg (clG tx p) 0 0 none (by omega) (by omega) (Or.inl rfl)
theorem nb_isTurned (d : Nat) (hI : NBI h U K im tx T) (hn : U.1 ≤ 5) (hL : Lin U.1 U.2.2.1) {a b : Nat} (ha : a ≤ 9) (hb : b ≤ 9) : ∃ h', NQ h (specLine U (nI a) (nI b) (b2i (!lnB U.2.2.1 a b))).2 K im tx T h' ∧ Cl (d + 2) 141 [.ref 3, .int (nI a), .int (nI b)] h (some (.int (b2i (okR (specLine U (nI a) (nI b) (b2i (!lnB U.2.2.1 a b))).1)))) h' := by
  have kC9 := co_NB_isTurned
  refine Cl_eH kC9 rfl rfl ?_
  unfold specLine
  rw [nI_clamp (by omega), nI_clamp (by omega)]
  have hib : ∀ x : Bool, 0 ≤ (b2i x).toInt ∧ (b2i x).toInt ≤ 1 := by decide
  have hib2 : ∀ x : Bool, decide (b2i x = 1) = x := by decide
  have hib3 : ∀ x : Bool, okR (b2i x) = true := by decide
  repeat (refine R_s kC9 rfl rfl ?_)
  refine R_get kC9 rfl (hI.ob) rfl ?_
  refine R_get kC9 rfl (hI.st.2.1) rfl ?_
  repeat (refine R_s kC9 rfl rfl ?_)
  refine R_cv kC9 rfl rfl rfl rfl hI.st.2.2.1.2 (by omega) (sp_FA_isPair d hI.st.2.2.1 hn _ _) ?_
  refine ZB_ne kC9 rfl (fun hd => ?_) (fun hd => ?_)
  · rw [if_pos hd, if_pos (hib _), hib2]
    unfold twoB at hd
    simp only [Bool.and_eq_true, Bool.not_eq_true', decide_eq_false_iff_not, ptB_nI (show a < 2 ^ 31 by omega), ptB_nI (show b < 2 ^ 31 by omega), decide_eq_true_eq] at hd
    have hab : a ≠ b := fun e => hd.2 (by rw [e])
    rw [← trn_set hL (by omega) (by omega) hab]
    repeat (refine R_s kC9 rfl rfl ?_)
    refine R_get kC9 rfl (hI.ob) rfl ?_
    refine R_get kC9 rfl (hI.st.2.1) rfl ?_
    repeat (refine R_s kC9 rfl rfl ?_)
    refine R_cv kC9 rfl rfl rfl rfl hI.st.2.2.1.2 (by omega) (sp_FA_turnLine (d + 1) hI.st.2.2.1 a b) ?_
    obtain ⟨S1, x1⟩ := hI.st.fam1 U.1 U.2.1 (trnL U.2.2.1 a b)
    repeat (refine R_s kC9 rfl rfl ?_)
    exact R_rz kC9 rfl (Or.inr rfl) ⟨ri_eq (b2i_t (hib3 _)), x1.mono (by omega) (by omega), hI.set x1 S1⟩
  · rw [if_neg (by rw [hd]; decide)]
    repeat (refine R_s kC9 rfl rfl ?_)
    exact R_rz kC9 rfl (Or.inl rfl) ⟨ri_eq (b2i_f (show okR (-1) = false by decide)), NQ.rfl' hI⟩
theorem most_letter {c : Int32} (h : mostF c ≠ 0) : c = nI 110 ∨ c = nI 107 ∨ c = nI 108 ∨ c = nI 115 ∨ c = nI 116 ∨ c = nI 99 := by
  unfold mostF at h
  split at h
  · rename_i z
    rcases z with z | z
    · exact Or.inl z
    · exact Or.inr (Or.inl z)
  · split at h
    · rename_i z; exact Or.inr (Or.inr (Or.inl z))
    · split at h
      · rename_i z; exact Or.inr (Or.inr (Or.inr z))
      · exact absurd rfl h
theorem sw_l {ts : List Nat} {k t : Nat} (k1 : 99 ≤ k) (k2 : k ≤ 116) (h : ts[k - 98]? = some t) : (if (nI k).toInt < 99 ∨ 116 < (nI k).toInt then ts[0]? else ts[((nI k).toInt - 99).toNat + 1]?) = some t := by
  rw [nI_toInt (by omega), if_neg (by omega), show (((k : Nat) : Int) - 99).toNat + 1 = k - 98 by omega]
  exact h
theorem doCl_n (U : US) (ds : List Nat) : doCl U (nI 110) ds = (okR (specPoints U (nI (ds.getD 0 0))).1, (specPoints U (nI (ds.getD 0 0))).2) := by unfold doCl; rw [if_pos rfl]
theorem doCl_k (U : US) (ds : List Nat) : doCl U (nI 107) ds = (okR (specMake U (nI (ds.getD 0 0))).1, (specMake U (nI (ds.getD 0 0))).2) := by unfold doCl; rw [if_neg (by decide), if_pos rfl]
theorem doCl_l (U : US) (ds : List Nat) : doCl U (nI 108) ds = (okR (specLine U (nI (ds.getD 0 0)) (nI (ds.getD 1 0)) (b2i (!lnB U.2.2.1 (ds.getD 0 0) (ds.getD 1 0)))).1, (specLine U (nI (ds.getD 0 0)) (nI (ds.getD 1 0)) (b2i (!lnB U.2.2.1 (ds.getD 0 0) (ds.getD 1 0)))).2) := by unfold doCl; rw [if_neg (by decide), if_neg (by decide), if_pos rfl]
theorem doCl_s (U : US) (ds : List Nat) : doCl U (nI 115) ds = (okR (specComes U (nI (toldN U.1 ds 0))).1, (specComes U (nI (toldN U.1 ds 0))).2) := by unfold doCl; rw [if_neg (by decide), if_neg (by decide), if_neg (by decide), if_pos rfl]
theorem doCl_t (U : US) (ds : List Nat) : doCl U (nI 116) ds = (okR (specGoes U (nI (toldN U.1 ds 0))).1, (specGoes U (nI (toldN U.1 ds 0))).2) := by unfold doCl; rw [if_neg (by decide), if_neg (by decide), if_neg (by decide), if_neg (by decide), if_pos rfl]
theorem doCl_c (U : US) (ds : List Nat) : doCl U (nI 99) ds = (okR (specChoose U (nI (toldN U.1 ds 0))).1, (specChoose U (nI (toldN U.1 ds 0))).2) := by unfold doCl; rw [if_neg (by decide), if_neg (by decide), if_neg (by decide), if_neg (by decide), if_neg (by decide)]
theorem nb_isDone (d : Nat) (hI : NBI h U K im tx T) (hC : CG U) {p : Nat} (hp : p < 900) (hok : clOk tx p = true) : ∃ h', NQ h (doCl U (hereF tx p) (dsF tx p)).2 K im tx T h' ∧ Cl (d + 5) 140 [.ref 3, .int (nI p), .int (nI (clE tx p))] h (some (.int (b2i (doCl U (hereF tx p) (dsF tx p)).1))) h' := by
  have kC9 := co_NB_isDone
  obtain ⟨o1, o2, o3, o4⟩ := clOk_of hok
  have hn := hC.1.2.1
  have hg5 : clG tx p ≤ 5 := by
    have h1 := mostF_le (hereF tx p)
    have h2 : clG tx p ≤ mostF (hereF tx p) := by unfold clG; rw [if_neg o1]; exact digN_le _ _ _
    omega
  have d0 : (dsF tx p).getD 0 0 = dgV tx (p + 1) := by rw [List.getD_eq_getElem?_getD, dsF_get o2]; rfl
  have v9 : ∀ i, i < clG tx p → dgV tx (p + 1 + i) ≤ 9 := by
    intro i hi
    obtain ⟨q3, ho, F, hF, hx⟩ := hI.txt
    exact (hereF_dg hx.2.1 (cl_dig hi)).2.2
  have v0 := v9 0 o2
  rw [Nat.add_zero] at v0
  have dg0 := nb_digit (d + 3) hI (p := p) (i := 0) (by omega) o2
  rw [Nat.add_zero] at dg0
  refine Cl_eH kC9 rfl rfl ?_
  repeat (refine R_s kC9 rfl rfl ?_)
  refine R_get kC9 rfl (hI.ob) rfl ?_
  repeat (refine R_s kC9 rfl rfl ?_)
  refine (show R (d + 5) 140 5 [some (.ref 3), some (.int (nI p)), some (.int (nI (clE tx p))), none] [.int (nI p + nI 1), .ref 61] h _ from ?_)
  rw [nI_add]
  refine R_cv kC9 rfl rfl rfl rfl hI.txt.2.1 (by omega) dg0 ?_
  repeat (refine R_s kC9 rfl rfl ?_)
  refine R_get kC9 rfl (hI.ob) rfl ?_
  repeat (refine R_s kC9 rfl rfl ?_)
  refine R_cv kC9 rfl rfl rfl rfl hI.txt.2.1 (by omega) (sp_TE_signAt (d + 4) hI.txt (i := p) (by omega)) ?_
  rcases most_letter o1 with hk | hk | hk | hk | hk | hk
  · rw [hk, doCl_n, d0]
    refine R_sw kC9 rfl (t := 12) (sw_l (by omega) (by omega) rfl) ?_
    repeat (refine R_s kC9 rfl rfl ?_)
    obtain ⟨h2, q2, c2⟩ := nb_points d hI (nI (dgV tx (p + 1)))
    refine R_cv kC9 rfl rfl rfl rfl hI.ob (by omega) c2 ?_
    refine Zr_lt kC9 rfl (fun y => ?_) (fun y => ?_)
    · repeat (refine R_s kC9 rfl rfl ?_)
      exact R_rz kC9 rfl (Or.inl rfl) ⟨ri_eq (b2i_f (by cases w : okR (specPoints U (nI (dgV tx (p + 1)))).1 with | false => rfl | true => exact absurd y (okR_nlt.mp w))), q2⟩
    · repeat (refine R_s kC9 rfl rfl ?_)
      refine R_g kC9 rfl ?_
      exact R_rz kC9 rfl (Or.inr rfl) ⟨ri_eq (b2i_t (okR_nlt.mpr y)), q2⟩
  · rw [hk, doCl_k, d0]
    refine R_sw kC9 rfl (t := 20) (sw_l (by omega) (by omega) rfl) ?_
    repeat (refine R_s kC9 rfl rfl ?_)
    obtain ⟨h2, q2, c2⟩ := nb_make (d + 1) hI hn hC.2.1 (nI (dgV tx (p + 1)))
    refine R_cv kC9 rfl rfl rfl rfl hI.ob (by omega) c2 ?_
    refine Zr_lt kC9 rfl (fun y => ?_) (fun y => ?_)
    · repeat (refine R_s kC9 rfl rfl ?_)
      exact R_rz kC9 rfl (Or.inl rfl) ⟨ri_eq (b2i_f (by cases w : okR (specMake U (nI (dgV tx (p + 1)))).1 with | false => rfl | true => exact absurd y (okR_nlt.mp w))), q2⟩
    · repeat (refine R_s kC9 rfl rfl ?_)
      refine R_g kC9 rfl ?_
      exact R_rz kC9 rfl (Or.inr rfl) ⟨ri_eq (b2i_t (okR_nlt.mpr y)), q2⟩
  · have g2 := o3 hk
    have d1 : (dsF tx p).getD 1 0 = dgV tx (p + 1 + 1) := by rw [List.getD_eq_getElem?_getD, dsF_get (by omega)]; rfl
    have v1 := v9 1 (by omega)
    rw [hk, doCl_l, d0, d1]
    refine R_sw kC9 rfl (t := 28) (sw_l (by omega) (by omega) rfl) ?_
    repeat (refine R_s kC9 rfl rfl ?_)
    refine R_get kC9 rfl (hI.ob) rfl ?_
    repeat (refine R_s kC9 rfl rfl ?_)
    refine (show R (d + 5) 140 35 [some (.ref 3), some (.int (nI p)), some (.int (nI (clE tx p))), some (.int (nI (dgV tx (p + 1))))] [.int (nI p + nI 2), .ref 61, .int (nI (dgV tx (p + 1))), .ref 3] h _ from ?_)
    rw [nI_add, show p + 2 = p + 1 + 1 by omega]
    refine R_cv kC9 rfl rfl rfl rfl hI.txt.2.1 (by omega) (nb_digit (d + 3) hI (p := p) (i := 1) (by omega) (by omega)) ?_
    obtain ⟨h2, q2, c2⟩ := nb_isTurned (d + 2) hI hn hC.2.1 v0 v1
    refine R_cv kC9 rfl rfl rfl rfl hI.ob (by omega) c2 ?_
    exact R_rb kC9 rfl ⟨rfl, q2⟩
  · rw [hk, doCl_s]
    refine R_sw kC9 rfl (t := 38) (sw_l (by omega) (by omega) rfl) ?_
    repeat (refine R_s kC9 rfl rfl ?_)
    refine (show R (d + 5) 140 44 [some (.ref 3), some (.int (nI p)), some (.int (nI (clE tx p))), some (.int (nI (dgV tx (p + 1))))] [.int (nI (clE tx p)), .int (nI p + nI 1), .ref 3, .ref 3] h _ from ?_)
    rw [nI_add, o4]
    refine R_cv kC9 rfl rfl rfl rfl hI.ob (by omega) (nb_toldSet (d + 2) hI hn (by omega) hg5) ?_
    obtain ⟨h2, q2, c2⟩ := nb_comes d hI hC.1 (nI (toldN U.1 (dsF tx p) 0))
    refine R_cv kC9 rfl rfl rfl rfl hI.ob (by omega) c2 ?_
    refine Zr_lt kC9 rfl (fun y => ?_) (fun y => ?_)
    · repeat (refine R_s kC9 rfl rfl ?_)
      exact R_rz kC9 rfl (Or.inl rfl) ⟨ri_eq (b2i_f (by cases w : okR (specComes U (nI (toldN U.1 (dsF tx p) 0))).1 with | false => rfl | true => exact absurd y (okR_nlt.mp w))), q2⟩
    · repeat (refine R_s kC9 rfl rfl ?_)
      refine R_g kC9 rfl ?_
      exact R_rz kC9 rfl (Or.inr rfl) ⟨ri_eq (b2i_t (okR_nlt.mpr y)), q2⟩
  · rw [hk, doCl_t]
    refine R_sw kC9 rfl (t := 51) (sw_l (by omega) (by omega) rfl) ?_
    repeat (refine R_s kC9 rfl rfl ?_)
    refine (show R (d + 5) 140 57 [some (.ref 3), some (.int (nI p)), some (.int (nI (clE tx p))), some (.int (nI (dgV tx (p + 1))))] [.int (nI (clE tx p)), .int (nI p + nI 1), .ref 3, .ref 3] h _ from ?_)
    rw [nI_add, o4]
    refine R_cv kC9 rfl rfl rfl rfl hI.ob (by omega) (nb_toldSet (d + 2) hI hn (by omega) hg5) ?_
    obtain ⟨h2, q2, c2⟩ := nb_goes (d + 1) hI hC.1 (nI (toldN U.1 (dsF tx p) 0))
    refine R_cv kC9 rfl rfl rfl rfl hI.ob (by omega) c2 ?_
    refine Zr_lt kC9 rfl (fun y => ?_) (fun y => ?_)
    · repeat (refine R_s kC9 rfl rfl ?_)
      exact R_rz kC9 rfl (Or.inl rfl) ⟨ri_eq (b2i_f (by cases w : okR (specGoes U (nI (toldN U.1 (dsF tx p) 0))).1 with | false => rfl | true => exact absurd y (okR_nlt.mp w))), q2⟩
    · repeat (refine R_s kC9 rfl rfl ?_)
      refine R_g kC9 rfl ?_
      exact R_rz kC9 rfl (Or.inr rfl) ⟨ri_eq (b2i_t (okR_nlt.mpr y)), q2⟩
  · rw [hk, doCl_c]
    refine R_sw kC9 rfl (t := 64) (sw_l (by omega) (by omega) rfl) ?_
    repeat (refine R_s kC9 rfl rfl ?_)
    refine (show R (d + 5) 140 70 [some (.ref 3), some (.int (nI p)), some (.int (nI (clE tx p))), some (.int (nI (dgV tx (p + 1))))] [.int (nI (clE tx p)), .int (nI p + nI 1), .ref 3, .ref 3] h _ from ?_)
    rw [nI_add, o4]
    refine R_cv kC9 rfl rfl rfl rfl hI.ob (by omega) (nb_toldSet (d + 2) hI hn (by omega) hg5) ?_
    obtain ⟨h2, q2, c2⟩ := nb_choose d hI hC.1 hC.2.2.1 hC.2.2.2 (nI (toldN U.1 (dsF tx p) 0))
    refine R_cv kC9 rfl rfl rfl rfl hI.ob (by omega) c2 ?_
    refine Zr_lt kC9 rfl (fun y => ?_) (fun y => ?_)
    · repeat (refine R_s kC9 rfl rfl ?_)
      exact R_rz kC9 rfl (Or.inl rfl) ⟨ri_eq (b2i_f (by cases w : okR (specChoose U (nI (toldN U.1 (dsF tx p) 0))).1 with | false => rfl | true => exact absurd y (okR_nlt.mp w))), q2⟩
    · repeat (refine R_s kC9 rfl rfl ?_)
      refine R_g kC9 rfl ?_
      exact R_rz kC9 rfl (Or.inr rfl) ⟨ri_eq (b2i_t (okR_nlt.mpr y)), q2⟩
theorem clE_ge (tx : List Nat) (q : Nat) : q ≤ clE tx q := by unfold clE; split <;> omega
theorem letter_59 {c : Int32} (hc : mostF c ≠ 0) : ¬ c = nI 59 := fun e => hc (by rw [e]; decide)
theorem dig_59 {c : Int32} (hc : isDg c = true) : ¬ c = nI 59 := fun e => by rw [e] at hc; exact absurd hc (by decide)
theorem lc_doCl (d : Nat) {P : US → Prop} (hP : GoodC P) (hl100 : tx.length ≤ 100) (hx : ∀ x ∈ tx, x < 128) : ∀ (c p : Nat) (U : US) (dn f : Nat) (h2 : AH) (m e : Nat), fltF tx (c + 1) p = none → p ≤ tx.length → c + 2 ≤ f → P U → frI 3 75 h h2 → NBI h2 U K im tx T → e + m = clE tx p → p ≤ e → 1 ≤ e → R (d + 6) 139 6 [some (.ref 3), some (.int (nI dn)), some (.int (nI p)), some (.int (nI e))] [] h2 (fun r2 h3 => r2 = some (.int (nI (rdF tx f p U dn).2)) ∧ NQ h (rdF tx f p U dn).1 K im tx T h3) := by
  have kC9 := co_NB_doClauses
  have step : ∀ c, (c ≠ 0 → ∀ (p : Nat) (U : US) (dn f : Nat) (h2 : AH) (m e : Nat), fltF tx c p = none → p ≤ tx.length → c + 1 ≤ f → P U → frI 3 75 h h2 → NBI h2 U K im tx T → e + m = clE tx p → p ≤ e → 1 ≤ e → R (d + 6) 139 6 [some (.ref 3), some (.int (nI dn)), some (.int (nI p)), some (.int (nI e))] [] h2 (fun r2 h3 => r2 = some (.int (nI (rdF tx f p U dn).2)) ∧ NQ h (rdF tx f p U dn).1 K im tx T h3)) → ∀ (p : Nat) (U : US) (dn f : Nat) (h2 : AH) (m e : Nat), fltF tx (c + 1) p = none → p ≤ tx.length → c + 2 ≤ f → P U → frI 3 75 h h2 → NBI h2 U K im tx T → e + m = clE tx p → p ≤ e → 1 ≤ e → R (d + 6) 139 6 [some (.ref 3), some (.int (nI dn)), some (.int (nI p)), some (.int (nI e))] [] h2 (fun r2 h3 => r2 = some (.int (nI (rdF tx f p U dn).2)) ∧ NQ h (rdF tx f p U dn).1 K im tx T h3) := by
    intro c ihc p U dn f h2 m
    induction m with
    | zero =>
      intro e hflt hp hf hPU hx1 hI he hpe he1
      have hE := clE_le hx hp
      have ee : e = clE tx p := by omega
      subst ee
      rw [fltF_succ] at hflt
      have hok : clOk tx p = true := by
        cases hq : clOk tx p with
        | true => rfl
        | false => rw [hq, if_pos rfl] at hflt; cases hflt
      rw [if_neg (by rw [hok]; decide)] at hflt
      obtain ⟨o1, o2, o3, o4⟩ := clOk_of hok
      have hplt : p < tx.length := hereF_most o1
      obtain ⟨f', rfl⟩ : ∃ f', f = f' + 1 := ⟨f - 1, by omega⟩
      rw [rdF_succ, if_pos hplt, hok, if_pos rfl, Bool.true_and]
      have body : R (d + 6) 139 22 [some (.ref 3), some (.int (nI dn)), some (.int (nI p)), some (.int (nI (clE tx p)))] [] h2 (fun r2 h3 => r2 = some (.int (nI (rdF tx f' (clE tx p + 1) (doCl U (hereF tx p) (dsF tx p)).2 (dn + (doCl U (hereF tx p) (dsF tx p)).1.toNat)).2)) ∧ NQ h (rdF tx f' (clE tx p + 1) (doCl U (hereF tx p) (dsF tx p)).2 (dn + (doCl U (hereF tx p) (dsF tx p)).1.toNat)).1 K im tx T h3) := by
        obtain ⟨h3, ⟨x3, I3⟩, c3⟩ := nb_isDone d hI (hP.1 U hPU) (show p < 900 by omega) hok
        have hPU2 := hP.2 U (hereF tx p) (dsF tx p) hPU
        have tail : R (d + 6) 139 31 [some (.ref 3), some (.int (nI dn)), some (.int (nI p)), some (.int (nI (clE tx p)))] [.int (b2i (doCl U (hereF tx p) (dsF tx p)).1), .int (nI dn)] h3 (fun r2 h3 => r2 = some (.int (nI (rdF tx f' (clE tx p + 1) (doCl U (hereF tx p) (dsF tx p)).2 (dn + (doCl U (hereF tx p) (dsF tx p)).1.toNat)).2)) ∧ NQ h (rdF tx f' (clE tx p + 1) (doCl U (hereF tx p) (dsF tx p)).2 (dn + (doCl U (hereF tx p) (dsF tx p)).1.toNat)).1 K im tx T h3) := by
          repeat (refine R_s kC9 rfl rfl ?_)
          refine R_g kC9 rfl ?_
          refine (show R (d + 6) 139 6 [some (.ref 3), some (.int (nI dn + b2i (doCl U (hereF tx p) (dsF tx p)).1)), some (.int (nI (clE tx p) + nI 1)), some (.int (nI (clE tx p) + nI 1))] [] h3 _ from ?_)
          rw [b2i_nI, nI_add, nI_add]
          by_cases h59 : c ≠ 0 ∧ hereF tx (clE tx p) = nI 59
          · rw [if_pos h59] at hflt
            have hlt := hereF_59 h59.2
            have hE2 : clE tx p + 1 ≤ clE tx (clE tx p + 1) := clE_ge tx _
            exact ihc h59.1 (clE tx p + 1) _ _ f' h3 (clE tx (clE tx p + 1) - (clE tx p + 1)) (clE tx p + 1) hflt (by omega) (by omega) hPU2 (hx1.trans x3) I3 (by omega) (Nat.le_refl _) (by omega)
          · rw [if_neg h59] at hflt
            have hend : clE tx p = tx.length := by
              rcases Nat.lt_or_ge (clE tx p) tx.length with q | q
              · rw [if_pos q] at hflt; cases hflt
              · omega
            obtain ⟨f2, rfl⟩ : ∃ f2, f' = f2 + 1 := ⟨f' - 1, by omega⟩
            rw [rdF_succ, if_neg (by omega)]
            repeat (refine R_s kC9 rfl rfl ?_)
            refine R_get kC9 rfl I3.ob rfl ?_
            refine R_get kC9 rfl I3.txt.2.1 rfl ?_
            refine R_gt kC9 rfl rfl rfl (by omega) (by omega) (fun _ => ?_) (fun q => by omega)
            repeat (refine R_s kC9 rfl rfl ?_)
            exact R_ri kC9 rfl ⟨rfl, hx1.trans x3, I3⟩
        repeat (refine R_s kC9 rfl rfl ?_)
        refine R_cv kC9 rfl rfl rfl rfl hI.ob (by omega) c3 ?_
        refine ZB_eq kC9 rfl (fun hd => ?_) (fun hd => ?_)
        · rw [hd] at tail ⊢
          iterate 1 (refine R_s kC9 rfl rfl ?_)
          exact tail
        · rw [hd] at tail ⊢
          iterate 1 (refine R_s kC9 rfl rfl ?_)
          refine R_g kC9 rfl ?_
          exact tail
      repeat (refine R_s kC9 rfl rfl ?_)
      refine R_get kC9 rfl (hI.ob) rfl ?_
      refine R_get kC9 rfl (hI.txt.2.1) rfl ?_
      refine R_gt kC9 rfl rfl rfl (by omega) (by omega) (fun q => by omega) (fun _ => ?_)
      repeat (refine R_s kC9 rfl rfl ?_)
      refine R_get kC9 rfl (hI.ob) rfl ?_
      refine R_get kC9 rfl (hI.txt.2.1) rfl ?_
      refine R_eq kC9 rfl rfl rfl (by omega) (by omega) (fun hq => ?_) (fun hq => ?_)
      · exact body
      · have h59 : hereF tx (clE tx p) = nI 59 := by
          by_cases z : c ≠ 0 ∧ hereF tx (clE tx p) = nI 59
          · exact z.2
          · rw [if_neg z, if_pos (by omega)] at hflt; cases hflt
        repeat (refine R_s kC9 rfl rfl ?_)
        refine R_get kC9 rfl (hI.ob) rfl ?_
        repeat (refine R_s kC9 rfl rfl ?_)
        refine R_cv kC9 rfl rfl rfl rfl hI.txt.2.1 (by omega) (sp_TE_signAt (d + 5) hI.txt (by omega)) ?_
        repeat (refine R_s kC9 rfl rfl ?_)
        refine Rr_ne kC9 rfl (fun z => absurd h59 z) (fun _ => ?_)
        exact body
    | succ m ih =>
      intro e hflt hp hf hPU hx1 hI he hpe he1
      have hE := clE_le hx hp
      have hok : clOk tx p = true := by
        rw [fltF_succ] at hflt
        cases hq : clOk tx p with
        | true => rfl
        | false => rw [hq, if_pos rfl] at hflt; cases hflt
      obtain ⟨o1, o2, o3, o4⟩ := clOk_of hok
      have h59 : ¬ hereF tx e = nI 59 := by
        by_cases q : e = p
        · rw [q]; exact letter_59 o1
        · have := cl_dig (tx := tx) (p := p) (i := e - (p + 1)) (by omega)
          rw [show p + 1 + (e - (p + 1)) = e by omega] at this
          exact dig_59 this
      repeat (refine R_s kC9 rfl rfl ?_)
      refine R_get kC9 rfl (hI.ob) rfl ?_
      refine R_get kC9 rfl (hI.txt.2.1) rfl ?_
      refine R_gt kC9 rfl rfl rfl (by omega) (by omega) (fun q => by omega) (fun _ => ?_)
      repeat (refine R_s kC9 rfl rfl ?_)
      refine R_get kC9 rfl (hI.ob) rfl ?_
      refine R_get kC9 rfl (hI.txt.2.1) rfl ?_
      refine R_eq kC9 rfl rfl rfl (by omega) (by omega) (fun hq => by omega) (fun hq => ?_)
      repeat (refine R_s kC9 rfl rfl ?_)
      refine R_get kC9 rfl (hI.ob) rfl ?_
      repeat (refine R_s kC9 rfl rfl ?_)
      refine R_cv kC9 rfl rfl rfl rfl hI.txt.2.1 (by omega) (sp_TE_signAt (d + 5) hI.txt (by omega)) ?_
      repeat (refine R_s kC9 rfl rfl ?_)
      refine Rr_ne kC9 rfl (fun _ => ?_) (fun z => absurd z h59)
      repeat (refine R_s kC9 rfl rfl ?_)
      refine R_g kC9 rfl ?_
      refine (show R (d + 6) 139 6 [some (.ref 3), some (.int (nI dn)), some (.int (nI p)), some (.int (nI e + nI 1))] [] h2 _ from ?_)
      rw [nI_add]
      exact ih (e + 1) hflt hp hf hPU hx1 hI (by omega) (by omega) (by omega)
  intro c
  induction c with
  | zero => exact step 0 (fun z => absurd rfl z)
  | succ c ih => exact step (c + 1) (fun _ => ih)
theorem nb_doClauses (d : Nat) {P : US → Prop} (hP : GoodC P) (hPU : P U) (hI : NBI h U K im tx T) (hflt : fltF tx 12 0 = none) : ∃ h', NQ h (rdF tx 102 0 U 0).1 K im tx T h' ∧ Cl (d + 6) 139 [.ref 3] h (some (.int (nI (rdF tx 102 0 U 0).2))) h' := by
  have kC9 := co_NB_doClauses
  refine Cl_eH kC9 rfl rfl ?_
  have hT := hI.txt
  obtain ⟨o3, ho, F, hF, hx⟩ := hT
  have hE := clE_le hx.2.1 (show 0 ≤ tx.length by omega)
  have hok : clOk tx 0 = true := by
    have := hflt
    rw [fltF_succ] at this
    cases hq : clOk tx 0 with
    | true => rfl
    | false => rw [hq, if_pos rfl] at this; cases this
  obtain ⟨o1, o2, o3, o4⟩ := clOk_of hok
  iterate 6 (refine R_s kC9 rfl rfl ?_)
  exact lc_doCl (h := h) d hP hx.1 hx.2.1 11 0 U 0 102 h (clE tx 0 - 1) 1 hflt (by omega) (by omega) hPU (frI.refl _ _ _) hI (by omega) (by omega) (by omega)
theorem nb_read (d : Nat) {P : US → Prop} (hP : GoodC P) (hPU : P U) (hI : NBI h U K im tx T) : ∃ h', NQ h (specRead U tx).2 K im [] T h' ∧ Cl (d + 7) 101 [.ref 3] h (some (.int (specRead U tx).1)) h' := by
  have kC9 := co_NB_read
  refine Cl_eH kC9 rfl rfl ?_
  have hx : ∀ x ∈ tx, x < 128 := by obtain ⟨o3, ho, F, hF, hx⟩ := hI.txt; exact hx.2.1
  have hl : tx.length ≤ 100 := by obtain ⟨o3, ho, F, hF, hx⟩ := hI.txt; exact hx.1
  have fin : ∀ (h2 : AH) (V : US) (w r : Int32), frI 3 75 h h2 → NBI h2 V K im tx T → R (d + 7) 101 13 [some (.ref 3), some (.int w), some (.int r)] [] h2 (fun r2 h3 => r2 = some (.int r) ∧ NQ h V K im [] T h3) := by
    intro h2 V w r x I2
    repeat (refine R_s kC9 rfl rfl ?_)
    refine R_get kC9 rfl I2.ob rfl ?_
    obtain ⟨h3, ⟨x3, T3⟩, c3⟩ := cl_TE_empty (d + 6) I2.txt
    refine R_cv kC9 rfl rfl rfl rfl I2.txt.2.1 (by omega) c3 ?_
    repeat (refine R_s kC9 rfl rfl ?_)
    exact R_ri kC9 rfl ⟨rfl, x.trans (x3.mono (by omega) (by omega)), I2.text x3 T3⟩
  unfold specRead
  repeat (refine R_s kC9 rfl rfl ?_)
  refine R_get kC9 rfl (hI.ob) rfl ?_
  refine R_cv kC9 rfl rfl rfl rfl hI.txt.2.1 (by omega) (sp_TE_fault (d + 3) hI.txt) ?_
  cases hflt : fltF tx 12 0 with
  | none =>
    repeat (refine R_s kC9 rfl rfl ?_)
    refine Zr_ge kC9 rfl (fun z => absurd z (by decide)) (fun _ => ?_)
    repeat (refine R_s kC9 rfl rfl ?_)
    obtain ⟨h2, ⟨x2, I2⟩, c2⟩ := nb_doClauses d hP hPU hI hflt
    refine R_cv kC9 rfl rfl rfl rfl hI.ob (by omega) c2 ?_
    refine R_g kC9 rfl ?_
    iterate 1 (refine R_s kC9 rfl rfl ?_)
    exact fin h2 _ _ _ x2 I2
  | some q =>
    have := fltF_lt hx 12 0 q (by omega) hflt
    repeat (refine R_s kC9 rfl rfl ?_)
    refine Z_ge kC9 rfl (u := q) rfl (by omega) (fun _ => ?_) (fun z => by omega)
    iterate 4 (refine R_s kC9 rfl rfl ?_)
    exact fin h U _ _ (frI.refl _ _ _) hI
end
