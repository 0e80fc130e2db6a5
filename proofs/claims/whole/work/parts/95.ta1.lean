/-! THE CLASS, 25: Tape -/
def TapC (h : AH) (o : Nat) (z : Int32 × List Int64) : Prop := 3 ≤ o ∧ z.2.length ≤ 60 ∧ h.2 o = objA 6 [.int z.1, .ref (o + 1), .int (nI z.2.length)] ∧ ∃ F, h.2 (o + 1) = longs 60 F ∧ ∀ i x, z.2[i]? = some x → F i = x
theorem TapC.fr {a b o : Nat} {h h' : AH} {z : Int32 × List Int64} (hT : TapC h o z) (x : frI a b h h') (hd : o + 1 < a ∨ b < o) : TapC h' o z := by
  obtain ⟨a0, a1, a2, F, a3, a4⟩ := hT
  exact ⟨a0, a1, x.get a2 (by omega), F, x.get a3 (by omega), a4⟩
section
variable {h : AH} {o : Nat} {z : Int32 × List Int64}
def runI (l : Nat) (i n : Int32) : Bool := decide (0 ≤ i.toInt ∧ 0 ≤ n.toInt ∧ n.toInt ≤ (l : Int) - i.toInt)
theorem sp_TA_hasRun (d : Nat) (hT : TapC h o z) (i n : Int32) : Cl d 16 [.ref o, .int i, .int n] h (some (.int (b2i (runI z.2.length i n)))) h := by
  have kC9 := co_TA_hasRun
  refine Cl_of kC9 rfl rfl ?_
  obtain ⟨o3, hl, ho, F, hF, hx⟩ := hT
  unfold runI
  repeat (refine R_s kC9 rfl rfl ?_)
  refine Zr_lt kC9 rfl (fun hc => ?_) (fun hc => ?_)
  · rw [tI_lt, tI_0] at hc
    repeat (refine R_s kC9 rfl rfl ?_)
    exact R_rz kC9 rfl (Or.inl rfl) ⟨ri_eq (b2i_f (decide_eq_false (by omega))), rfl⟩
  · obtain ⟨k, hk, rfl⟩ := nI_of hc
    repeat (refine R_s kC9 rfl rfl ?_)
    refine Zr_lt kC9 rfl (fun hd => ?_) (fun hd => ?_)
    · rw [tI_lt, tI_0] at hd
      repeat (refine R_s kC9 rfl rfl ?_)
      exact R_rz kC9 rfl (Or.inl rfl) ⟨ri_eq (b2i_f (decide_eq_false (by omega))), rfl⟩
    · rw [tI_lt, tI_0] at hd
      have e1 := nI_toInt hk
      have e2 := sub_ti (a := z.2.length) (b := k) (by omega) hk
      repeat (refine R_s kC9 rfl rfl ?_)
      refine R_get kC9 rfl (ho) rfl ?_
      repeat (refine R_s kC9 rfl rfl ?_)
      refine Rr_gt kC9 rfl (fun he => ?_) (fun he => ?_)
      · rw [tI_lt, e2] at he
        repeat (refine R_s kC9 rfl rfl ?_)
        exact R_rz kC9 rfl (Or.inl rfl) ⟨ri_eq (b2i_f (decide_eq_false (by omega))), rfl⟩
      · rw [tI_lt, e2] at he
        repeat (refine R_s kC9 rfl rfl ?_)
        refine R_g kC9 rfl ?_
        exact R_rz kC9 rfl (Or.inr rfl) ⟨ri_eq (b2i_t (decide_eq_true (by omega))), rfl⟩
theorem run1 (l : Nat) (i : Int32) : runI l i (nI 1) = itI l i := by
  unfold runI itI
  rw [tI_1]
  congr 1
  apply propext
  omega
theorem sp_TA_get (d : Nat) (hT : TapC h o z) (i : Int32) : Cl (d + 1) 17 [.ref o, .int i] h (some (.long (if itI z.2.length i = true then z.2.getD i.toNatClampNeg 0 else -9223372036854775808))) h := by
  have kC9 := co_TA_get
  refine Cl_of kC9 rfl rfl ?_
  have hr := sp_TA_hasRun d hT i (nI 1)
  rw [run1] at hr
  obtain ⟨o3, hl, ho, F, hF, hx⟩ := hT
  repeat (refine R_s kC9 rfl rfl ?_)
  refine R_cv kC9 rfl rfl rfl rfl ho o3 hr ?_
  refine ZB_eq kC9 rfl (fun hc => ?_) (fun hc => ?_)
  · rw [if_neg (by rw [hc]; decide)]
    repeat (refine R_s kC9 rfl rfl ?_)
    exact R_rl kC9 rfl ⟨rfl, rfl⟩
  · rw [if_pos hc]
    obtain ⟨k, k1, k2, rfl⟩ := itI_of hc
    repeat (refine R_s kC9 rfl rfl ?_)
    refine R_get kC9 rfl (ho) rfl ?_
    repeat (refine R_s kC9 rfl rfl ?_)
    refine R_lld kC9 rfl hF (by omega) (k := k) rfl (by omega) (by omega) ?_
    refine R_g kC9 rfl ?_
    have hg : z.2[k]? = some z.2[k] := List.getElem?_eq_getElem k1
    rw [hx k _ hg, nI_clamp k2, List.getD_eq_getElem?_getD, hg]
    exact R_rl kC9 rfl ⟨rfl, rfl⟩
theorem sp_TA_cut (d : Nat) {k : Nat} (hk : k ≤ 4) {L : List Int64} (hT : TapC h o (nI k, L)) (v : Int64) : Cl d 19 [.ref o, .long v] h (some (.long (liesF (nI k) v))) h := by
  have kC9 := co_TA_cut
  refine Cl_of kC9 rfl rfl ?_
  obtain ⟨o3, hl, ho, F, hF, hx⟩ := hT
  repeat (refine R_s kC9 rfl rfl ?_)
  refine R_get kC9 rfl (ho) rfl ?_
  match k, hk with
  | 0, _ =>
    refine R_sw kC9 rfl (t := 3) rfl ?_
    repeat (refine R_s kC9 rfl rfl ?_)
    exact R_rl kC9 rfl ⟨rfl, rfl⟩
  | 1, _ =>
    refine R_sw kC9 rfl (t := 8) rfl ?_
    repeat (refine R_s kC9 rfl rfl ?_)
    exact R_rl kC9 rfl ⟨rfl, rfl⟩
  | 2, _ =>
    refine R_sw kC9 rfl (t := 13) rfl ?_
    repeat (refine R_s kC9 rfl rfl ?_)
    exact R_rl kC9 rfl ⟨rfl, rfl⟩
  | 3, _ =>
    refine R_sw kC9 rfl (t := 25) rfl ?_
    repeat (refine R_s kC9 rfl rfl ?_)
    exact R_rl kC9 rfl ⟨rfl, rfl⟩
  | 4, _ =>
    refine R_sw kC9 rfl (t := 17) rfl ?_
    repeat (refine R_s kC9 rfl rfl ?_)
    have e : liesF (nI 4) v = if v = 0 then 0 else 1 := rfl
    rw [e]
    refine Zr_eq kC9 rfl (fun hd => ?_) (fun hd => ?_)
    · rw [if_pos ((lg_eq0 _ _).mp hd)]
      repeat (refine R_s kC9 rfl rfl ?_)
      exact R_rl kC9 rfl ⟨rfl, rfl⟩
    · rw [if_neg (fun q => hd ((lg_eq0 _ _).mpr q))]
      repeat (refine R_s kC9 rfl rfl ?_)
      refine R_g kC9 rfl ?_
      exact R_rl kC9 rfl ⟨rfl, rfl⟩
  | k + 5, hk => omega
theorem cl_TA_put (d : Nat) {k j : Nat} (hk : k ≤ 4) {L : List Int64} (hj : j < L.length) (hT : TapC h o (nI k, L)) (v : Int64) : ∃ h', (frI o (o + 1) h h' ∧ TapC h' o (nI k, L.set j (liesF (nI k) v))) ∧ Cl (d + 1) 18 [.ref o, .int (nI j), .long v] h none h' := by
  have kC9 := co_TA_put
  refine Cl_eH kC9 rfl rfl ?_
  have hT0 := hT
  have hr := sp_TA_hasRun d hT (nI j) (nI 1)
  obtain ⟨o3, hl, ho, F, hF, hx⟩ := hT
  dsimp only at hl
  have e1 : itI L.length (nI j) = true := by
    unfold itI
    rw [nI_toInt (by omega)]
    exact decide_eq_true (by omega)
  rw [run1, e1] at hr
  repeat (refine R_s kC9 rfl rfl ?_)
  refine R_cv kC9 rfl rfl rfl rfl ho o3 hr ?_
  refine ZB_eq kC9 rfl (fun q => by cases q) (fun _ => ?_)
  repeat (refine R_s kC9 rfl rfl ?_)
  refine R_get kC9 rfl (ho) rfl ?_
  repeat (refine R_s kC9 rfl rfl ?_)
  refine R_cv kC9 rfl rfl rfl rfl ho o3 (sp_TA_cut d hk hT0 v) ?_
  refine R_lst kC9 rfl hF (by omega) (k := j) rfl (by omega) (by omega) ?_
  refine R_rv kC9 rfl ⟨rfl, (frI.refl _ _ _).up _ (by omega) (by omega), o3, by dsimp only; rw [List.length_set]; exact hl, ?_, vp_updL F j (liesF (nI k) v), upH_at _ _ _, fun i x hix => ?_⟩
  · dsimp only
    rw [List.length_set]
    exact (upH_ne _ _ (by omega)).trans ho
  · dsimp only at hix
    rw [List.getElem?_set] at hix
    by_cases e : j = i
    · subst e
      rw [if_pos rfl, if_pos hj] at hix
      cases hix
      rw [updL_s]
    · rw [if_neg e] at hix
      rw [updL_n (fun q => e q.symm)]
      exact hx i x hix
theorem lc_hold (d : Nat) {k : Nat} (hk : k ≤ 60) (o3 : 3 ≤ o) (w1 w2 s : Int32) (ho : h.2 o = objA 6 [.int s, .ref (o + 1), .int (nI k)]) : ∀ (m i : Nat) (F : Nat → Int64), i + m = k → (∀ j, j < i → F j = 0) → R d 15 14 [some (.ref o), some (.int w1), some (.int w2), some (.int (nI i))] [] (upH h (o + 1) (longs 60 F)) (fun r2 h2 => r2 = none ∧ ∃ F2, h2 = upH h (o + 1) (longs 60 F2) ∧ ∀ j, j < k → F2 j = 0) := by
  have kC9 := co_TA_hold
  intro m
  induction m with
  | zero =>
    intro i F hi hF
    have ho1 : (upH h (o + 1) (longs 60 F)).2 o = objA 6 [.int s, .ref (o + 1), .int (nI k)] := (upH_ne _ _ (by omega)).trans ho
    repeat (refine R_s kC9 rfl rfl ?_)
    refine R_get kC9 rfl (ho1) rfl ?_
    refine R_ge kC9 rfl (rfl) (rfl) (by omega) (by omega) (fun hc => ?_) (fun hc => ?_)
    · exact R_rv kC9 rfl ⟨rfl, F, rfl, fun j hj => hF j (by omega)⟩
    · omega
  | succ m ih =>
    intro i F hi hF
    have ho1 : (upH h (o + 1) (longs 60 F)).2 o = objA 6 [.int s, .ref (o + 1), .int (nI k)] := (upH_ne _ _ (by omega)).trans ho
    repeat (refine R_s kC9 rfl rfl ?_)
    refine R_get kC9 rfl (ho1) rfl ?_
    refine R_ge kC9 rfl (rfl) (rfl) (by omega) (by omega) (fun hc => ?_) (fun hc => ?_)
    · omega
    · repeat (refine R_s kC9 rfl rfl ?_)
      refine R_get kC9 rfl (ho1) rfl ?_
      repeat (refine R_s kC9 rfl rfl ?_)
      refine R_lst kC9 rfl (upH_at _ _ _) (by omega) (k := i) rfl (by omega) (by omega) ?_
      rw [upH_upH]
      repeat (refine R_s kC9 rfl rfl ?_)
      refine R_g kC9 rfl ?_
      refine (show R d 15 14 [some (.ref o), some (.int w1), some (.int w2), some (.int (nI i + nI 1))] [] (upH h (o + 1) (longs 60 (vp_updL F i 0))) _ from ?_)
      rw [nI_add]
      refine ih (i + 1) _ (by omega) (fun j hj => ?_)
      by_cases e : j = i
      · rw [e, updL_s]
      · rw [updL_n e]; exact hF j (by omega)
theorem cl_TA_hold (d : Nat) (hT : TapC h o z) (s : Int32) {k : Nat} (hk : k ≤ 60) : ∃ h', (frI o (o + 1) h h' ∧ TapC h' o (s, List.replicate k 0)) ∧ Cl d 15 [.ref o, .int s, .int (nI k)] h none h' := by
  have kC9 := co_TA_hold
  refine Cl_eH kC9 rfl rfl ?_
  obtain ⟨o3, hl, ho, F, hF, hx⟩ := hT
  repeat (refine R_s kC9 rfl rfl ?_)
  refine R_put kC9 rfl ho o3 (Nat.le_of_ble_eq_true rfl) rfl ?_
  refine (show R d 15 3 [some (.ref o), some (.int s), some (.int (nI k)), none] [] (upH h o (objA 6 [.int s, .ref (o + 1), .int (nI z.2.length)])) _ from ?_)
  repeat (refine R_s kC9 rfl rfl ?_)
  refine R_get kC9 rfl (upH_at _ _ _) rfl ?_
  refine R_alen kC9 rfl (show (upH h o (objA 6 [.int s, .ref (o + 1), .int (nI z.2.length)])).2 (o + 1) = longs 60 F from (upH_ne _ _ (by omega)).trans hF) (by omega) ?_
  refine R_min kC9 rfl (Nat.le_of_ble_eq_true rfl) ?_
  rw [if_neg (nI_nlt hk (by omega))]
  refine R_max kC9 rfl (Nat.le_of_ble_eq_true rfl) ?_
  have e : (if nI 0 < nI k then nI k else nI 0) = nI k := by
    by_cases e : k = 0
    · subst e; decide
    · rw [if_pos (nI_lt (by omega) (by omega))]
  refine (show R d 15 11 _ [.int (if nI 0 < nI k then nI k else nI 0), .ref o] _ _ from ?_)
  rw [e]
  refine R_put kC9 rfl (upH_at _ _ _) o3 (Nat.le_of_ble_eq_true rfl) rfl ?_
  rw [upH_upH]
  refine (show R d 15 12 [some (.ref o), some (.int s), some (.int (nI k)), none] [] (upH h o (objA 6 [.int s, .ref (o + 1), .int (nI k)])) _ from ?_)
  iterate 2 (refine R_s kC9 rfl rfl ?_)
  have key := lc_hold (h := upH h o (objA 6 [.int s, .ref (o + 1), .int (nI k)])) d hk o3 s (nI k) s (upH_at _ _ _) k 0 F (by omega) (fun j hj => by omega)
  rw [upH_self (show (upH h o (objA 6 [.int s, .ref (o + 1), .int (nI k)])).2 (o + 1) = longs 60 F from (upH_ne _ _ (by omega)).trans hF)] at key
  obtain ⟨m, r, h2, hr, e1, F2, rfl, e3⟩ := key
  refine ⟨m, r, _, hr, e1, ((frI.refl _ _ _).up _ (by omega) (by omega)).up _ (by omega) (by omega), o3, by simp; exact hk, ?_, F2, upH_at _ _ _, fun i x hix => ?_⟩
  · rw [upH_ne _ _ (by omega), upH_at]
    simp
  · dsimp only at hix
    rw [List.getElem?_replicate] at hix
    split at hix
    · cases hix
      exact e3 i (by assumption)
    · cases hix
end
