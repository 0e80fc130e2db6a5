/-! THE CLASS, 33: NestedBodies: fits, after -/
section
variable {h h' : AH} {U K V : US} {im : Bool} {tx : List Nat} {T : TPS}
def vEv (j m : Nat) : Prop := (j < 2 ∧ 1 ≤ m ∧ m < 32) ∨ (j = 2 ∧ m ≤ 6) ∨ (j = 3 ∧ m ≤ 99)
theorem nb_happen (d : Nat) {o : Nat} {V : US} (hF : FamC h o V.1 V.2.1 V.2.2.1) (h0 : h.2 0 = ints 5 havF) (hf : Fam V.1 V.2.1) (hL : Lin V.1 V.2.2.1) {j m : Nat} (hv : vEv j m) : Cl (d + 4) 138 [.ref o, .int (nI j), .int (nI m)] h none (faH h o (evU V j m).1 (evU V j m).2.1 (evU V j m).2.2.1) := by
  have kC9 := co_NB_happen
  refine Cl_of kC9 rfl rfl ?_
  have hn := hf.2.1
  have keep : h = faH h o V.1 V.2.1 V.2.2.1 := (upH_self hF.2).symm
  have same : (evU V j m).1 = V.1 ∧ (evU V j m).2.1 = V.2.1 ∧ (evU V j m).2.2.1 = V.2.2.1 → h = faH h o (evU V j m).1 (evU V j m).2.1 (evU V j m).2.2.1 := fun e => by rw [e.1, e.2.1, e.2.2]; exact keep
  unfold vEv at hv
  have z10 : ¬ nI 10 = 0 := by decide
  -- the tail: no such event
  have t25 : ¬ j = 2 → ¬ j = 3 → (evU V j m).1 = V.1 ∧ (evU V j m).2.1 = V.2.1 ∧ (evU V j m).2.2.1 = V.2.2.1 → R (d + 4) 138 25 [some (.ref o), some (.int (nI j)), some (.int (nI m))] [] h (fun r2 h2 => r2 = none ∧ h2 = faH h o (evU V j m).1 (evU V j m).2.1 (evU V j m).2.2.1) := by
    intro n2 n3 e
    repeat (refine R_s kC9 rfl rfl ?_)
    refine R_ne kC9 rfl rfl rfl (by omega) (by omega) (fun _ => ?_) (fun z => absurd z n2)
    repeat (refine R_s kC9 rfl rfl ?_)
    refine R_ne kC9 rfl rfl rfl (by omega) (by omega) (fun _ => ?_) (fun z => absurd z n3)
    exact R_rv kC9 rfl ⟨rfl, same e⟩
  by_cases j0 : j = 0
  · subst j0
    have hm : 1 ≤ m ∧ m < 32 := by omega
    have e : evU V 0 m = (specComes V (nI m)).2 := by unfold evU; rw [if_pos rfl]
    repeat (refine R_s kC9 rfl rfl ?_)
    refine Z_ne kC9 rfl rfl (by omega) (fun z => absurd rfl z) (fun _ => ?_)
    repeat (refine R_s kC9 rfl rfl ?_)
    refine R_cv kC9 rfl rfl rfl rfl hF.2 hF.1 (sp_FA_isSet (d + 2) hF hn (nI m)) ?_
    refine ZB_eq kC9 rfl (fun hd => ?_) (fun hd => ?_)
    · have ee : evU V 0 m = V := by rw [e]; unfold specComes; rw [if_neg (by rw [hd]; decide)]
      repeat (refine R_s kC9 rfl rfl ?_)
      refine R_ne kC9 rfl (u := 0) rfl rfl (by omega) (by omega) (fun _ => ?_) (fun z => by omega)
      exact t25 (by omega) (by omega) (by rw [ee]; exact ⟨rfl, rfl, rfl⟩)
    · have hs : m < 2 ^ V.1 := by
        rw [setB_nI (by omega)] at hd
        exact (of_decide_eq_true hd).2
      repeat (refine R_s kC9 rfl rfl ?_)
      refine R_cv kC9 rfl rfl rfl rfl hF.2 hF.1 (sp_FA_join d hF hf hm.1 hs) ?_
      rw [joinS_eq hf hm.2]
      have ee : evU V 0 m = (V.1, joinS V.2.1 m, V.2.2.1, if bt V.2.1 m = true then V.2.2.2.1 else [], V.2.2.2.2) := by
        rw [e]; unfold specComes; rw [if_pos hd, nI_clamp (by omega)]
      refine R_g kC9 rfl ?_
      exact R_rv kC9 rfl ⟨rfl, by rw [ee]⟩
  · repeat (refine R_s kC9 rfl rfl ?_)
    refine Z_ne kC9 rfl rfl (by omega) (fun _ => ?_) (fun z => absurd z j0)
    repeat (refine R_s kC9 rfl rfl ?_)
    by_cases j1 : j = 1
    · subst j1
      have hm : 1 ≤ m ∧ m < 32 := by omega
      have e : evU V 1 m = (specGoes V (nI m)).2 := by unfold evU; rw [if_neg (by omega), if_pos rfl]
      refine R_ne kC9 rfl (u := 1) rfl rfl (by omega) (by omega) (fun z => absurd rfl z) (fun _ => ?_)
      repeat (refine R_s kC9 rfl rfl ?_)
      refine R_cv kC9 rfl rfl rfl rfl hF.2 hF.1 (sp_FA_holds (d + 1) hF hn (nI m)) ?_
      refine ZB_eq kC9 rfl (fun hd => ?_) (fun hd => ?_)
      · have ee : evU V 1 m = V := by rw [e]; unfold specGoes; rw [if_neg (by rw [hd]; decide)]
        exact t25 (by omega) (by omega) (by rw [ee]; exact ⟨rfl, rfl, rfl⟩)
      · have hin : bt V.2.1 m = true := by
          rw [inF_nI (by omega), Bool.and_eq_true] at hd
          exact hd.2
        repeat (refine R_s kC9 rfl rfl ?_)
        refine R_cv kC9 rfl rfl rfl rfl hF.2 hF.1 (sp_FA_canLose (d + 2) hF h0 hf hin hm.1 hm.2) ?_
        refine ZB_eq kC9 rfl (fun he => ?_) (fun he => ?_)
        · have ee : evU V 1 m = V := by rw [e]; unfold specGoes; rw [if_pos hd, nI_clamp (by omega), if_neg (by rw [he]; decide)]
          exact t25 (by omega) (by omega) (by rw [ee]; exact ⟨rfl, rfl, rfl⟩)
        · have ee : evU V 1 m = (V.1, delM V.2.1 m, V.2.2.1, [], V.2.2.2.2) := by rw [e]; unfold specGoes; rw [if_pos hd, nI_clamp (by omega), if_pos he]
          repeat (refine R_s kC9 rfl rfl ?_)
          refine R_cv kC9 rfl rfl rfl rfl hF.2 hF.1 (sp_FA_lose (d + 3) hF hm.2) ?_
          refine R_g kC9 rfl ?_
          exact R_rv kC9 rfl ⟨rfl, by rw [ee]⟩
    · refine R_ne kC9 rfl rfl rfl (by omega) (by omega) (fun _ => ?_) (fun z => absurd z j1)
      repeat (refine R_s kC9 rfl rfl ?_)
      by_cases j2 : j = 2
      · subst j2
        have hm : m ≤ 6 := by omega
        have e : evU V 2 m = (specMake V (nI m)).2 := by unfold evU; rw [if_neg (by omega), if_neg (by omega), if_pos rfl]
        have hk : (0 : Int) ≤ (nI m).toInt ∧ (nI m).toInt ≤ 6 := by rw [nI_toInt (by omega)]; omega
        have ee : evU V 2 m = (V.1, makeS V.1 V.2.2.1 m, V.2.2.1, [], V.2.2.2.2) := by rw [e]; unfold specMake; rw [if_pos hk, nI_clamp (by omega)]
        refine R_ne kC9 rfl (u := 2) rfl rfl (by omega) (by omega) (fun z => absurd rfl z) (fun _ => ?_)
        repeat (refine R_s kC9 rfl rfl ?_)
        refine R_cs kC9 rfl rfl rfl rfl (sp_NB_isKind (d + 3) (nI m)) ?_
        rw [decide_eq_true hk]
        refine ZB_eq kC9 rfl (fun z => by cases z) (fun _ => ?_)
        repeat (refine R_s kC9 rfl rfl ?_)
        refine R_cv kC9 rfl rfl rfl rfl hF.2 hF.1 (sp_FA_build (d + 1) hF hn hL (k := m) (by omega)) ?_
        refine R_g kC9 rfl ?_
        exact R_rv kC9 rfl ⟨rfl, by rw [ee]⟩
      · have j3 : j = 3 := by omega
        subst j3
        have hm : m ≤ 99 := by omega
        have ed : nI m / nI 10 = nI (m / 10) := pk_div (by omega) (by omega) (by omega)
        have er : nI m - nI m / nI 10 * nI 10 = nI (m % 10) := pk_rem (by omega) (by omega) (by omega)
        refine R_ne kC9 rfl (u := 3) rfl rfl (by omega) (by omega) (fun _ => ?_) (fun z => by omega)
        repeat (refine R_s kC9 rfl rfl ?_)
        refine R_ne kC9 rfl (u := 3) rfl rfl (by omega) (by omega) (fun z => absurd rfl z) (fun _ => ?_)
        repeat (refine R_s kC9 rfl rfl ?_)
        refine R_div kC9 rfl z10 ?_
        repeat (refine R_s kC9 rfl rfl ?_)
        refine R_rem kC9 rfl z10 ?_
        rw [er, ed]
        refine R_cv kC9 rfl rfl rfl rfl hF.2 hF.1 (sp_FA_isPair (d + 2) hF hn _ _) ?_
        have e : evU V 3 m = if twoB V.1 (nI (m / 10)) (nI (m % 10)) = true then (V.1, V.2.1, setL V.2.2.1 (m / 10) (m % 10) (!lnB V.2.2.1 (m / 10) (m % 10)), V.2.2.2) else V := by
          unfold evU
          rw [if_neg (by omega), if_neg (by omega), if_neg (by omega)]
        refine ZB_eq kC9 rfl (fun hd => ?_) (fun hd => ?_)
        · rw [if_neg (by rw [hd]; decide)] at e
          exact R_rv kC9 rfl ⟨rfl, same (by rw [e]; exact ⟨rfl, rfl, rfl⟩)⟩
        · rw [if_pos hd] at e
          unfold twoB at hd
          simp only [Bool.and_eq_true, Bool.not_eq_true', decide_eq_false_iff_not, ptB_nI (show m / 10 < 2 ^ 31 by omega), ptB_nI (show m % 10 < 2 ^ 31 by omega), decide_eq_true_eq] at hd
          have hab : m / 10 ≠ m % 10 := fun q => hd.2 (by rw [q])
          rw [← trn_set hL (by omega) (by omega) hab] at e
          repeat (refine R_s kC9 rfl rfl ?_)
          refine R_div kC9 rfl z10 ?_
          repeat (refine R_s kC9 rfl rfl ?_)
          refine R_rem kC9 rfl z10 ?_
          rw [er, ed]
          refine R_cv kC9 rfl rfl rfl rfl hF.2 hF.1 (sp_FA_turnLine (d + 3) hF (m / 10) (m % 10)) ?_
          exact R_rv kC9 rfl ⟨rfl, by rw [e]⟩
theorem lc_allSeen (d : Nat) {n : Nat} {S Lm : Int32} (hf : Fam n S) (hb : c120 n S) (hU : flU n S) (hin : ∀ x ∈ U.2.2.2.2.1, ∃ j m, j ≤ 4 ∧ m ≤ 999 ∧ x = (nI j, nI m)) : ∀ (m i : Nat) (h2 : AH), i + m = U.2.2.2.2.1.length → frI 46 60 h h2 → NBI h2 U K im tx T → (∃ b, BX h2 47 46 n S Lm b ∧ bIv b) → R (d + 9) 137 2 [some (.ref 3), some (.ref 47), some (.int (nI i))] [] h2 (fun r2 h3 => r2 = some (.int (b2i ((U.2.2.2.2.1.drop i).all (seenB n S)))) ∧ frI 46 60 h h3 ∧ NBI h3 U K im tx T ∧ ∃ b, BX h3 47 46 n S Lm b ∧ bIv b) := by
  have kC9 := co_NB_allSeenIn
  intro m
  induction m with
  | zero =>
    intro i h2 hi hx hI hB
    have hR := hI.st.2.2.2.2.1
    have hle := hR.1
    rw [List.drop_eq_nil_of_le (by omega)]
    repeat (refine R_s kC9 rfl rfl ?_)
    refine R_get kC9 rfl (hI.ob) rfl ?_
    refine R_get kC9 rfl (hI.st.2.1) rfl ?_
    refine R_get kC9 rfl (hR.2.2.2.1) rfl ?_
    refine R_ge kC9 rfl (rfl) (rfl) (by omega) (by omega) (fun hc => ?_) (fun hc => ?_)
    · repeat (refine R_s kC9 rfl rfl ?_)
      exact R_rz kC9 rfl (Or.inr rfl) ⟨rfl, hx, hI, hB⟩
    · omega
  | succ m ih =>
    intro i h2 hi hx hI hB
    have hR := hI.st.2.2.2.2.1
    have hle := hR.1
    obtain ⟨x, hxi⟩ : ∃ x, U.2.2.2.2.1[i]? = some x := ⟨_, List.getElem?_eq_getElem (by omega)⟩
    obtain ⟨j, q, j4, q9, rfl⟩ := hin x (List.mem_of_getElem? hxi)
    obtain ⟨b, B, iv⟩ := hB
    obtain ⟨h3, ⟨b3, x3, B3, iv3⟩, c3⟩ := sp_BO_nestCount d (show BP h2 47 46 n S Lm b from ⟨B, hf, hb, hU, iv⟩) (k := j) (by omega)
    have I3 : NBI h3 U K im tx T := hI.trial (x3.mono (by omega) (by omega)) ⟨n, S, Lm, b3, B3, iv3⟩
    have hR3 := I3.st.2.2.2.2.1
    have hx3 : frI 46 60 h h3 := hx.trans (x3.mono (by omega) (by omega))
    rw [drop_cons hxi, List.all_cons]
    have es : seenB n S (nI j, nI q) = decide (nI (lenN (allN n S) j) = nI q) := by unfold seenB; dsimp only; rw [nI_clamp (by omega)]
    rw [es]
    repeat (refine R_s kC9 rfl rfl ?_)
    refine R_get kC9 rfl (hI.ob) rfl ?_
    refine R_get kC9 rfl (hI.st.2.1) rfl ?_
    refine R_get kC9 rfl (hR.2.2.2.1) rfl ?_
    refine R_ge kC9 rfl (rfl) (rfl) (by omega) (by omega) (fun hc => ?_) (fun hc => ?_)
    · omega
    · repeat (refine R_s kC9 rfl rfl ?_)
      refine R_get kC9 rfl (hI.ob) rfl ?_
      refine R_get kC9 rfl (hI.st.2.1) rfl ?_
      repeat (refine R_s kC9 rfl rfl ?_)
      refine R_cv kC9 rfl rfl rfl rfl hR.2.2.2.1 (by omega) (cl_RO_firstAt (d + 8) hR hxi) ?_
      refine R_cv kC9 rfl rfl rfl rfl B.ob (by omega) c3 ?_
      repeat (refine R_s kC9 rfl rfl ?_)
      refine R_get kC9 rfl I3.ob rfl ?_
      refine R_get kC9 rfl I3.st.2.1 rfl ?_
      repeat (refine R_s kC9 rfl rfl ?_)
      refine R_cv kC9 rfl rfl rfl rfl hR3.2.2.2.1 (by omega) (cl_RO_secondAt (d + 8) hR3 hxi) ?_
      refine Rr_eq kC9 rfl (fun he => ?_) (fun he => ?_)
      · rw [decide_eq_true he, Bool.true_and]
        repeat (refine R_s kC9 rfl rfl ?_)
        refine R_g kC9 rfl ?_
        refine (show R (d + 9) 137 2 [some (.ref 3), some (.ref 47), some (.int (nI i + nI 1))] [] h3 _ from ?_)
        rw [nI_add]
        exact ih (i + 1) h3 (by omega) hx3 I3 ⟨b3, B3, iv3⟩
      · rw [decide_eq_false he, Bool.false_and]
        repeat (refine R_s kC9 rfl rfl ?_)
        exact R_rz kC9 rfl (Or.inl rfl) ⟨rfl, hx3, I3, b3, B3, iv3⟩
theorem nb_allSeen (d : Nat) {n : Nat} {S Lm : Int32} (hf : Fam n S) (hb : c120 n S) (hU : flU n S) (hin : ∀ x ∈ U.2.2.2.2.1, ∃ j m, j ≤ 4 ∧ m ≤ 999 ∧ x = (nI j, nI m)) (hI : NBI h U K im tx T) (hB : ∃ b, BX h 47 46 n S Lm b ∧ bIv b) : ∃ h', (frI 46 60 h h' ∧ NBI h' U K im tx T ∧ ∃ b, BX h' 47 46 n S Lm b ∧ bIv b) ∧ Cl (d + 9) 137 [.ref 3, .ref 47] h (some (.int (b2i (U.2.2.2.2.1.all (seenB n S))))) h' := by
  have kC9 := co_NB_allSeenIn
  refine Cl_eH kC9 rfl rfl ?_
  iterate 2 (refine R_s kC9 rfl rfl ?_)
  exact lc_allSeen (h := h) d hf hb hU hin _ 0 h (Nat.zero_add _) (frI.refl _ _ _) hI hB
/-- the trial's family is new -/
theorem trial_new {n n' : Nat} {S Lm S' Lm' : Int32} (hI : NBI h U K im tx T) (hB : ∃ b, BX h 47 46 n S Lm b ∧ bIv b) : frI 46 60 h (faH h 46 n' S' Lm') ∧ NBI (faH h 46 n' S' Lm') U K im tx T ∧ ∃ b, BX (faH h 46 n' S' Lm') 47 46 n' S' Lm' b ∧ bIv b := by
  have x : frI 46 60 h (faH h 46 n' S' Lm') := (frI.refl _ _ _).up _ (by omega) (by omega)
  obtain ⟨b, B, iv⟩ := hB
  have B2 : BX (faH h 46 n' S' Lm') 47 46 n' S' Lm' b := B.re (fun q q1 q2 => upH_ne _ _ (by omega)) (upH_ne _ _ (by omega)) (upH_ne _ _ (by omega)) ⟨by omega, upH_at _ _ _⟩
  exact ⟨x, hI.trial x ⟨_, _, _, b, B2, iv⟩, b, B2, iv⟩
theorem lc_fits (d : Nat) (hn : U.1 ≤ 5) (hL : Lin U.1 U.2.2.1) (hk : ∀ c, c < 7 → Fam U.1 (makeS U.1 U.2.2.1 c) ∧ c120 U.1 (makeS U.1 U.2.2.1 c) ∧ flU U.1 (makeS U.1 U.2.2.1 c)) (hin : ∀ x ∈ U.2.2.2.2.1, ∃ j m, j ≤ 4 ∧ m ≤ 999 ∧ x = (nI j, nI m)) : ∀ (m c : Nat) (h2 : AH) (S : Int32), c + m = 7 → frI 46 60 h h2 → NBI h2 U K im tx T → (∃ b, BX h2 47 46 U.1 S U.2.2.1 b ∧ bIv b) → R (d + 10) 117 10 [some (.ref 3), some (.int (ftF (fitB U) c)), some (.int (nI c))] [] h2 (fun r2 h3 => r2 = some (.int (fitsR U)) ∧ NQ h U K im tx T h3) := by
  have kC9 := co_NB_fits
  intro m
  induction m with
  | zero =>
    intro c h2 S hc hx hI hB
    have : c = 7 := by omega
    subst this
    repeat (refine R_s kC9 rfl rfl ?_)
    refine R_ge kC9 rfl (rfl) (rfl) (by omega) (by omega) (fun hc => ?_) (fun hc => ?_)
    · repeat (refine R_s kC9 rfl rfl ?_)
      exact R_ri kC9 rfl ⟨rfl, hx.mono (by omega) (by omega), hI⟩
    · omega
  | succ m ih =>
    intro c h2 S hc hx hI hB
    obtain ⟨b0, B0, iv0⟩ := hB
    obtain ⟨k1, k2, k3⟩ := hk c (by omega)
    obtain ⟨x1, I1, B1⟩ := trial_new (n' := U.1) (S' := makeS U.1 U.2.2.1 c) (Lm' := U.2.2.1) hI ⟨b0, B0, iv0⟩
    obtain ⟨h3, ⟨x3, I3, B3⟩, c3⟩ := nb_allSeen d k1 k2 k3 hin I1 B1
    have ih1 := ih (c + 1) h3 (makeS U.1 U.2.2.1 c) (by omega) ((hx.trans x1).trans x3) I3 B3
    rw [ftF_succ] at ih1
    have o3 : (3 : Nat) ≤ 46 := by omega
    repeat (refine R_s kC9 rfl rfl ?_)
    refine R_ge kC9 rfl (rfl) (rfl) (by omega) (by omega) (fun hc => ?_) (fun hc => ?_)
    · omega
    · repeat (refine R_s kC9 rfl rfl ?_)
      refine R_get kC9 rfl (hI.ob) rfl ?_
      repeat (refine R_s kC9 rfl rfl ?_)
      refine R_cv kC9 rfl rfl rfl rfl B0.fc.2 o3 (sp_FA_build (d + 7) B0.fc hn hL (k := c) (by omega)) ?_
      repeat (refine R_s kC9 rfl rfl ?_)
      refine R_get kC9 rfl I1.ob rfl ?_
      refine R_cv kC9 rfl rfl rfl rfl I1.ob (by omega) c3 ?_
      refine ZB_eq kC9 rfl (fun hd => ?_) (fun hd => ?_)
      · rw [show fitB U c = false from hd, if_neg (by decide)] at ih1
        repeat (refine R_s kC9 rfl rfl ?_)
        refine R_g kC9 rfl ?_
        refine (show R (d + 10) 117 10 [some (.ref 3), some (.int (ftF (fitB U) c)), some (.int (nI c + nI 1))] [] h3 _ from ?_)
        rw [nI_add]
        have e0 : ftF (fitB U) c ||| nI 0 = ftF (fitB U) c := b_ext (fun i _ => by rw [b_or, show nI 0 = 0 from nI_0, b_0, Bool.or_false])
        rw [e0] at ih1
        exact ih1
      · rw [show fitB U c = true from hd, if_pos rfl] at ih1
        repeat (refine R_s kC9 rfl rfl ?_)
        refine R_g kC9 rfl ?_
        refine (show R (d + 10) 117 10 [some (.ref 3), some (.int (ftF (fitB U) c ||| (nI 1 <<< (nI c &&& 31)))), some (.int (nI c + nI 1))] [] h3 _ from ?_)
        rw [nI_add]
        exact ih1
theorem nb_fits (d : Nat) (hI : NBI h U K im tx T) (hn : U.1 ≤ 5) (hL : Lin U.1 U.2.2.1) (hk : ∀ c, c < 7 → Fam U.1 (makeS U.1 U.2.2.1 c) ∧ c120 U.1 (makeS U.1 U.2.2.1 c) ∧ flU U.1 (makeS U.1 U.2.2.1 c)) (hin : ∀ x ∈ U.2.2.2.2.1, ∃ j m, j ≤ 4 ∧ m ≤ 999 ∧ x = (nI j, nI m)) : ∃ h', NQ h U K im tx T h' ∧ Cl (d + 10) 117 [.ref 3] h (some (.int (fitsR U))) h' := by
  have kC9 := co_NB_fits
  refine Cl_eH kC9 rfl rfl ?_
  obtain ⟨n0, S0, L0, b0, B0, iv0⟩ := hI.2.2.2.2.2.1
  obtain ⟨x1, I1, B1⟩ := trial_new (n' := U.1) (S' := U.2.1) (Lm' := U.2.2.1) hI ⟨b0, B0, iv0⟩
  repeat (refine R_s kC9 rfl rfl ?_)
  refine R_get kC9 rfl (hI.ob) rfl ?_
  repeat (refine R_s kC9 rfl rfl ?_)
  refine R_get kC9 rfl (hI.ob) rfl ?_
  refine R_get kC9 rfl (hI.st.2.1) rfl ?_
  refine R_cv kC9 rfl rfl rfl rfl B0.fc.2 (by omega) (sp_FA_copy (d + 9) B0.fc hI.st.2.2.1 (by omega)) ?_
  iterate 2 (refine R_s kC9 rfl rfl ?_)
  exact lc_fits (h := h) d hn hL hk hin 7 0 _ U.2.1 (by omega) x1 I1 B1
/-- what holds of families that come of events -/
def GoodA (P : US → Prop) : Prop := (∀ V, P V → FG V.1 V.2.1 ∧ Lin V.1 V.2.2.1) ∧ ∀ V j m, P V → vEv j m → P (evU V j m)
theorem lc_after (d : Nat) {P : US → Prop} (hP : GoodA P) (w : Int32) (Q : Option Value → AH → Prop) (hin : ∀ x ∈ U.2.2.2.2.2.1, ∃ j m, vEv j m ∧ x = (nI j, nI m)) (kk : ∀ (h2 : AH) (V : US), V = afU U U.2.2.2.2.2.1 → P V → frI 46 60 h h2 → NBI h2 U K im tx T → (∃ b, BX h2 47 46 V.1 V.2.1 V.2.2.1 b ∧ bIv b) → R (d + 5) 121 36 [some (.ref 3), some (.int w), some (.int (nI U.2.2.2.2.2.1.length))] [] h2 Q) : ∀ (m i : Nat) (h2 : AH) (V : US), i + m = U.2.2.2.2.2.1.length → afU U U.2.2.2.2.2.1 = afU V (U.2.2.2.2.2.1.drop i) → P V → frI 46 60 h h2 → NBI h2 U K im tx T → (∃ b, BX h2 47 46 V.1 V.2.1 V.2.2.1 b ∧ bIv b) → R (d + 5) 121 15 [some (.ref 3), some (.int w), some (.int (nI i))] [] h2 Q := by
  have kC9 := co_NB_after
  intro m
  induction m with
  | zero =>
    intro i h2 V hi he hPV hx hI hB
    have hR := hI.st.2.2.2.2.2.1
    have hle := hR.1
    rw [List.drop_eq_nil_of_le (by omega)] at he
    repeat (refine R_s kC9 rfl rfl ?_)
    refine R_get kC9 rfl (hI.ob) rfl ?_
    refine R_get kC9 rfl (hI.st.2.1) rfl ?_
    refine R_get kC9 rfl (hR.2.2.2.1) rfl ?_
    refine R_ge kC9 rfl (rfl) (rfl) (by omega) (by omega) (fun hc => ?_) (fun hc => ?_)
    · have : i = U.2.2.2.2.2.1.length := by omega
      subst this
      exact kk h2 V he.symm hPV hx hI hB
    · omega
  | succ m ih =>
    intro i h2 V hi he hPV hx hI hB
    have hR := hI.st.2.2.2.2.2.1
    have hle := hR.1
    obtain ⟨x, hxi⟩ : ∃ x, U.2.2.2.2.2.1[i]? = some x := ⟨_, List.getElem?_eq_getElem (by omega)⟩
    obtain ⟨j, q, hv, rfl⟩ := hin x (List.mem_of_getElem? hxi)
    have hj : j < 2 ^ 31 := by unfold vEv at hv; omega
    have hq : q < 2 ^ 31 := by unfold vEv at hv; omega
    rw [drop_cons hxi, afU_cons] at he
    dsimp only at he
    rw [nI_clamp hj, nI_clamp hq] at he
    obtain ⟨hg, hL⟩ := hP.1 V hPV
    obtain ⟨b0, B0, iv0⟩ := hB
    obtain ⟨x1, I1, B1⟩ := trial_new (n' := (evU V j q).1) (S' := (evU V j q).2.1) (Lm' := (evU V j q).2.2.1) hI ⟨b0, B0, iv0⟩
    repeat (refine R_s kC9 rfl rfl ?_)
    refine R_get kC9 rfl (hI.ob) rfl ?_
    refine R_get kC9 rfl (hI.st.2.1) rfl ?_
    refine R_get kC9 rfl (hR.2.2.2.1) rfl ?_
    refine R_ge kC9 rfl (rfl) (rfl) (by omega) (by omega) (fun hc => ?_) (fun hc => ?_)
    · omega
    · repeat (refine R_s kC9 rfl rfl ?_)
      refine R_get kC9 rfl (hI.ob) rfl ?_
      repeat (refine R_s kC9 rfl rfl ?_)
      refine R_get kC9 rfl (hI.ob) rfl ?_
      refine R_get kC9 rfl (hI.st.2.1) rfl ?_
      repeat (refine R_s kC9 rfl rfl ?_)
      refine R_cv kC9 rfl rfl rfl rfl hR.2.2.2.1 (by omega) (cl_RO_firstAt (d + 4) hR hxi) ?_
      repeat (refine R_s kC9 rfl rfl ?_)
      refine R_get kC9 rfl (hI.ob) rfl ?_
      refine R_get kC9 rfl (hI.st.2.1) rfl ?_
      repeat (refine R_s kC9 rfl rfl ?_)
      refine R_cv kC9 rfl rfl rfl rfl hR.2.2.2.1 (by omega) (cl_RO_secondAt (d + 4) hR hxi) ?_
      refine R_cs kC9 rfl rfl rfl rfl (nb_happen d B0.fc hI.h0 hg.1 hL hv) ?_
      repeat (refine R_s kC9 rfl rfl ?_)
      refine R_g kC9 rfl ?_
      refine (show R (d + 5) 121 15 [some (.ref 3), some (.int w), some (.int (nI i + nI 1))] [] _ Q from ?_)
      rw [nI_add]
      exact ih (i + 1) _ (evU V j q) (by omega) he (hP.2 V j q hPV hv) (hx.trans x1) I1 B1
theorem rg2 {v : Int32} : (0 ≤ v.toInt ∧ v.toInt ≤ 2) ↔ ¬ v < 0 ∧ v ≤ nI 2 := by
  rw [tI_lt, tI_le, tI_0, show (nI 2).toInt = 2 by decide]
  omega
theorem nb_after (d : Nat) {P : US → Prop} (hP : GoodA P) (hPU : P U) (hI : NBI h U K im tx T) (hin : ∀ x ∈ U.2.2.2.2.2.1, ∃ j m, vEv j m ∧ x = (nI j, nI m)) (v : Int32) : ∃ h', NQ h U K im tx T h' ∧ Cl (d + 10) 121 [.ref 3, .int v] h (some (.int (afterR U v))) h' := by
  have kC9 := co_NB_after
  refine Cl_eH kC9 rfl rfl ?_
  unfold afterR
  have body : R (d + 10) 121 7 [some (.ref 3), some (.int v), none] [] h (fun r2 h' => r2 = some (.int (if v = 0 then nI (els (afU U U.2.2.2.2.2.1).2.1).length else if v = 1 then nI (cornS (afU U U.2.2.2.2.2.1).1 (afU U U.2.2.2.2.2.1).2.1).length else nI (farN (afU U U.2.2.2.2.2.1).1 (afU U U.2.2.2.2.2.1).2.1))) ∧ NQ h U K im tx T h') := by
    obtain ⟨n0, S0, L0, b0, B0, iv0⟩ := hI.2.2.2.2.2.1
    obtain ⟨x1, I1, B1⟩ := trial_new (n' := U.1) (S' := U.2.1) (Lm' := U.2.2.1) hI ⟨b0, B0, iv0⟩
    repeat (refine R_s kC9 rfl rfl ?_)
    refine R_get kC9 rfl (hI.ob) rfl ?_
    repeat (refine R_s kC9 rfl rfl ?_)
    refine R_get kC9 rfl (hI.ob) rfl ?_
    refine R_get kC9 rfl (hI.st.2.1) rfl ?_
    refine R_cv kC9 rfl rfl rfl rfl B0.fc.2 (by omega) (sp_FA_copy (d + 9) B0.fc hI.st.2.2.1 (by omega)) ?_
    iterate 2 (refine R_s kC9 rfl rfl ?_)
    refine lc_after (h := h) (d + 5) hP v _ hin (fun h2 V eV hPV hx I2 hB2 => ?_) _ 0 _ U (Nat.zero_add _) rfl hPU x1 I1 B1
    obtain ⟨b2, B2, iv2⟩ := hB2
    obtain ⟨hg, hL⟩ := hP.1 V hPV
    have hbp : BP h2 47 46 V.1 V.2.1 V.2.2.1 b2 := ⟨B2, hg.1, hg.2.1, hg.2.2.1, iv2⟩
    rw [← eV]
    have cq : ∀ h3, BQ h2 47 46 V.1 V.2.1 V.2.2.1 h3 → NQ h U K im tx T h3 := by
      rintro h3 ⟨b3, x3, B3, iv3⟩
      exact ⟨(hx.trans (x3.mono (by omega) (by omega))).mono (by omega) (by omega), I2.trial (x3.mono (by omega) (by omega)) ⟨_, _, _, b3, B3, iv3⟩⟩
    repeat (refine R_s kC9 rfl rfl ?_)
    refine Zr_ne kC9 rfl (fun hd => ?_) (fun hd => ?_)
    · rw [if_neg hd]
      repeat (refine R_s kC9 rfl rfl ?_)
      refine Rr_ne kC9 rfl (fun he => ?_) (fun he => ?_)
      · rw [if_neg (show ¬ v = 1 from he)]
        obtain ⟨h3, q3, c3⟩ := sp_BO_greatestSteps d hbp hg.2.2.2.1 hg.2.2.2.2.1
        repeat (refine R_s kC9 rfl rfl ?_)
        refine R_get kC9 rfl I2.ob rfl ?_
        refine R_cv kC9 rfl rfl rfl rfl B2.ob (by omega) c3 ?_
        exact R_ri kC9 rfl ⟨rfl, cq h3 q3⟩
      · rw [if_pos (show v = 1 from he)]
        obtain ⟨h3, q3, c3⟩ := sp_BO_cornerCount (d + 1) hbp
        repeat (refine R_s kC9 rfl rfl ?_)
        refine R_get kC9 rfl I2.ob rfl ?_
        refine R_cv kC9 rfl rfl rfl rfl B2.ob (by omega) c3 ?_
        refine R_g kC9 rfl ?_
        exact R_ri kC9 rfl ⟨rfl, cq h3 q3⟩
    · rw [if_pos hd]
      repeat (refine R_s kC9 rfl rfl ?_)
      refine R_get kC9 rfl I2.ob rfl ?_
      refine R_cv kC9 rfl rfl rfl rfl B2.fc.2 (by omega) (sp_FA_size (d + 8) B2.fc) ?_
      exact R_ri kC9 rfl ⟨rfl, hx.mono (by omega) (by omega), I2⟩
  repeat (refine R_s kC9 rfl rfl ?_)
  refine Zr_lt kC9 rfl (fun hc => ?_) (fun hc => ?_)
  · rw [if_neg (fun z => (rg2.mp z).1 hc)]
    repeat (refine R_s kC9 rfl rfl ?_)
    exact R_ri kC9 rfl ⟨rfl, NQ.rfl' hI⟩
  · repeat (refine R_s kC9 rfl rfl ?_)
    refine Rr_le kC9 rfl (fun he => ?_) (fun he => ?_)
    · rw [if_pos (rg2.mpr ⟨hc, he⟩)]
      exact body
    · rw [if_neg (fun z => he (rg2.mp z).2)]
      repeat (refine R_s kC9 rfl rfl ?_)
      exact R_ri kC9 rfl ⟨rfl, NQ.rfl' hI⟩
end
