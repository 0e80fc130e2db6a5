/-! THE CLASS, 5: rows as lists; copy, remove -/
theorem Cl_eH {P : AH → Prop} {r : Option Value} {d mi nL : Nat} {av : List Value} {h : AH} {cd : List EI} {ret : Option FieldType} {ls : ALs} (hm : mt mi = (cd, nL, ret)) (hn : Nat.ble (av.flatMap slA).length nL = true) (hl : enL av nL = ls) (k : R d mi 0 ls [] h (fun r2 h2 => r2 = r ∧ P h2)) : ∃ h', P h' ∧ Cl d mi av h r h' := by
  obtain ⟨n, r2, h2, hr, rfl, hp⟩ := k
  exact ⟨h2, hp, Cl_of hm hn hl ⟨n, r2, h2, hr, rfl, rfl⟩⟩
/-- all cells but a .. b are as they were, nothing was made -/
def frI (a b : Nat) (h h' : AH) : Prop := h'.1 = h.1 ∧ ∀ q, ¬ (a ≤ q ∧ q ≤ b) → h'.2 q = h.2 q
theorem frI.refl (a b : Nat) (h : AH) : frI a b h h := ⟨rfl, fun _ _ => rfl⟩
theorem frI.trans {a b : Nat} {h h' h2 : AH} (x : frI a b h h') (y : frI a b h' h2) : frI a b h h2 := ⟨y.1.trans x.1, fun q hq => (y.2 q hq).trans (x.2 q hq)⟩
theorem frI.mono {a b a' b' : Nat} {h h' : AH} (x : frI a b h h') (ha : a' ≤ a) (hb : b ≤ b') : frI a' b' h h' := ⟨x.1, fun q hq => x.2 q (fun c => hq ⟨by omega, by omega⟩)⟩
theorem frI.up {a b : Nat} {h h' : AH} (x : frI a b h h') {r : Nat} (c : AC) (ha : a ≤ r) (hb : r ≤ b) : frI a b h (upH h' r c) := ⟨x.1, fun q hq => by
  have : q ≠ r := fun e => hq ⟨by omega, by omega⟩
  rw [upH_ne _ _ this]
  exact x.2 q hq⟩
def RowsC (h : AH) (o m : Nat) (l : List (Int32 × Int32)) : Prop := l.length ≤ m ∧ m < 1000 ∧ 3 ≤ o ∧ h.2 o = objA 4 [.int (nI l.length), .ref (o + 1), .ref (o + 2)] ∧ ∃ F Sf, h.2 (o + 1) = ints m F ∧ h.2 (o + 2) = ints m Sf ∧ rwF l F Sf
theorem RowsC.congr {h h' : AH} {o m : Nat} {l : List (Int32 × Int32)} (hR : RowsC h o m l) (e : ∀ q, o ≤ q → q ≤ o + 2 → h'.2 q = h.2 q) : RowsC h' o m l := by
  obtain ⟨h1, h2, h3, h4, F, Sf, h5, h6, h7⟩ := hR
  exact ⟨h1, h2, h3, (e o (by omega) (by omega)).trans h4, F, Sf, (e (o + 1) (by omega) (by omega)).trans h5, (e (o + 2) (by omega) (by omega)).trans h6, h7⟩
theorem nI_dif {a b : Nat} (h : b ≤ a) : nI a - nI b = nI (a - b) := by
  have e : nI a = nI (a - b) + nI b := by rw [nI_add, Nat.sub_add_cancel h]
  rw [e, Int32.add_sub_cancel]
section
variable {h : AH} {o m : Nat} {l : List (Int32 × Int32)}
theorem cl_RO_firstAt (d : Nat) (hR : RowsC h o m l) {i : Nat} {x : Int32 × Int32} (hx : l[i]? = some x) : Cl d 10 [.ref o, .int (nI i)] h (some (.int x.1)) h := by
  obtain ⟨h1, h2, h3, h4, F, Sf, h5, h6, h7⟩ := hR
  have hi : i < l.length := (List.getElem?_eq_some_iff.mp hx).1
  rw [← (h7 i x hx).1]
  exact sp_RO_firstAt d h4 h5 h2 (by omega)
theorem cl_RO_secondAt (d : Nat) (hR : RowsC h o m l) {i : Nat} {x : Int32 × Int32} (hx : l[i]? = some x) : Cl d 11 [.ref o, .int (nI i)] h (some (.int x.2)) h := by
  obtain ⟨h1, h2, h3, h4, F, Sf, h5, h6, h7⟩ := hR
  have hi : i < l.length := (List.getElem?_eq_some_iff.mp hx).1
  rw [← (h7 i x hx).2]
  exact sp_RO_secondAt d h4 h6 h2 (by omega)
theorem cl_RO_isFull (d : Nat) (hR : RowsC h o m l) : Cl d 8 [.ref o] h (some (.int (b2i (decide (l.length = m))))) h := by
  obtain ⟨h1, h2, h3, h4, F, Sf, h5, h6, h7⟩ := hR
  exact sp_RO_isFull d h4 h5 h2 h1
theorem cl_RO_empty (d : Nat) (hR : RowsC h o m l) : ∃ h', (frI o (o + 2) h h' ∧ RowsC h' o m []) ∧ Cl d 7 [.ref o] h (some (.int (nI 0))) h' := by
  obtain ⟨h1, h2, h3, h4, F, Sf, h5, h6, h7⟩ := hR
  refine ⟨_, ⟨(frI.refl o (o + 2) h).up _ (Nat.le_refl o) (by omega), by simp, h2, h3, upH_at _ _ _, F, Sf, (upH_ne _ _ (by omega)).trans h5, (upH_ne _ _ (by omega)).trans h6, fun i x hx => by simp at hx⟩, sp_RO_empty d h3 h4⟩
theorem cl_RO_put (d : Nat) (hR : RowsC h o m l) (hl : l.length < m) (x y : Int32) : ∃ h', (frI o (o + 2) h h' ∧ RowsC h' o m (l ++ [(x, y)])) ∧ Cl (d + 1) 9 [.ref o, .int x, .int y] h (some (.int (nI (l.length + 1)))) h' := by
  obtain ⟨h1, h2, h3, h4, F, Sf, h5, h6, h7⟩ := hR
  refine ⟨_, ⟨(((frI.refl o (o + 2) h).up _ (show o ≤ o + 1 by omega) (by omega)).up _ (show o ≤ o + 2 by omega) (by omega)).up _ (Nat.le_refl o) (by omega), ?_, h2, h3, ?_, upd F l.length x, upd Sf l.length y, ?_, ?_, rwF_push h7 x y⟩, sp_RO_put d h3 (by omega) (by omega) (by omega) (by omega) (by omega) h4 h5 h6 h2 hl x y⟩
  · rw [List.length_append]; exact hl
  · rw [upH_at, List.length_append]; rfl
  · rw [upH_ne _ _ (by omega), upH_ne _ _ (by omega), upH_at]
  · rw [upH_ne _ _ (by omega), upH_at]
/-- from i on what stands is what stood one on -/
theorem lp_ROremove (d : Nat) (Q : Option Value → AH → Prop) {F Sf : Nat → Int32} {k i0 : Nat} (hk : k ≤ m) (hm : m < 1000) (h3 : 3 ≤ o) (ho : h.2 o = objA 4 [.int (nI k), .ref (o + 1), .ref (o + 2)]) (w : Int32) (kk : ∀ (F' Sf' : Nat → Int32) (w2 : Option Value), (∀ q, q < k - 1 → F' q = (if q < i0 then F q else F (q + 1)) ∧ Sf' q = (if q < i0 then Sf q else Sf (q + 1))) → R d 13 32 [some (.ref o), some (.int w), w2] [] (upH (upH h (o + 1) (ints m F')) (o + 2) (ints m Sf')) Q) : ∀ (j i : Nat) (F' Sf' : Nat → Int32), i + j = k → 1 ≤ k → i0 ≤ i → (∀ q, (q < i → F' q = (if q < i0 then F q else F (q + 1)) ∧ Sf' q = (if q < i0 then Sf q else Sf (q + 1))) ∧ (i ≤ q → F' q = F q ∧ Sf' q = Sf q)) → i ≤ k - 1 → R d 13 4 [some (.ref o), some (.int w), some (.int (nI i))] [] (upH (upH h (o + 1) (ints m F')) (o + 2) (ints m Sf')) Q := by
  have kC9 := co_RO_remove
  intro j
  induction j with
  | zero => intro i F' Sf' hi hk1 _ _ hik; omega
  | succ j ih =>
    intro i F' Sf' hi hk1 hii hF hik
    have ho1 : (upH (upH h (o + 1) (ints m F')) (o + 2) (ints m Sf')).2 o = objA 4 [.int (nI k), .ref (o + 1), .ref (o + 2)] := by rw [upH_ne _ _ (by omega), upH_ne _ _ (by omega)]; exact ho
    have hf1 : (upH (upH h (o + 1) (ints m F')) (o + 2) (ints m Sf')).2 (o + 1) = ints m F' := by rw [upH_ne _ _ (by omega), upH_at]
    repeat (refine R_s kC9 rfl rfl ?_)
    refine R_get kC9 rfl (ho1) rfl ?_
    repeat (refine R_s kC9 rfl rfl ?_)
    refine R_ge kC9 rfl rfl (v := k - 1) (show nI k - nI 1 = _ from nI_dif hk1) (by omega) (by omega) (fun hc => ?_) (fun hc => ?_)
    · exact kk F' Sf' _ (fun q hq => (hF q).1 (by omega))
    · repeat (refine R_s kC9 rfl rfl ?_)
      refine R_get kC9 rfl (ho1) rfl ?_
      repeat (refine R_s kC9 rfl rfl ?_)
      refine R_get kC9 rfl (ho1) rfl ?_
      repeat (refine R_s kC9 rfl rfl ?_)
      refine R_ild kC9 rfl hf1 (k := i + 1) (show nI i + nI 1 = _ from nI_add i 1) (by omega) (by omega) ?_
      refine R_ist kC9 rfl hf1 (by omega) (k := i) rfl (by omega) (by omega) ?_
      have hu : upH (upH (upH h (o + 1) (ints m F')) (o + 2) (ints m Sf')) (o + 1) (ints m (upd F' i (F' (i + 1)))) = upH (upH h (o + 1) (ints m (upd F' i (F' (i + 1))))) (o + 2) (ints m Sf') := by rw [upH_comm _ _ _ (show o + 2 ≠ o + 1 by omega), upH_upH]
      rw [hu]
      have ho2 : (upH (upH h (o + 1) (ints m (upd F' i (F' (i + 1))))) (o + 2) (ints m Sf')).2 o = objA 4 [.int (nI k), .ref (o + 1), .ref (o + 2)] := by rw [upH_ne _ _ (by omega), upH_ne _ _ (by omega)]; exact ho
      repeat (refine R_s kC9 rfl rfl ?_)
      refine R_get kC9 rfl (ho2) rfl ?_
      repeat (refine R_s kC9 rfl rfl ?_)
      refine R_get kC9 rfl (ho2) rfl ?_
      repeat (refine R_s kC9 rfl rfl ?_)
      refine R_ild kC9 rfl (upH_at _ _ _) (k := i + 1) (show nI i + nI 1 = _ from nI_add i 1) (by omega) (by omega) ?_
      refine R_ist kC9 rfl (upH_at _ _ _) (by omega) (k := i) rfl (by omega) (by omega) ?_
      rw [upH_upH]
      repeat (refine R_s kC9 rfl rfl ?_)
      refine R_g kC9 rfl ?_
      refine (show R d 13 4 [some (.ref o), some (.int w), some (.int (nI i + nI 1))] [] _ _ from ?_)
      rw [nI_add]
      refine ih (i + 1) _ _ (by omega) hk1 (by omega) (fun q => ⟨fun hq => ?_, fun hq => ?_⟩) (by omega)
      · by_cases e : q = i
        · subst e
          rw [pk_us, pk_us, if_neg (by omega), if_neg (by omega)]
          exact (hF (q + 1)).2 (by omega)
        · rw [pk_un e, pk_un e]
          exact (hF q).1 (by omega)
      · rw [pk_un (by omega), pk_un (by omega)]
        exact (hF q).2 (by omega)
theorem cl_RO_remove (d : Nat) (hR : RowsC h o m l) {i : Nat} (hi : i < l.length) : ∃ h', (frI o (o + 2) h h' ∧ RowsC h' o m (l.eraseIdx i)) ∧ Cl d 13 [.ref o, .int (nI i)] h (some (.int (nI (l.length - 1)))) h' := by
  obtain ⟨h1, h2, h3, h4, F, Sf, h5, h6, h7⟩ := hR
  have kC9 := co_RO_remove
  refine Cl_eH kC9 rfl rfl ?_
  have e0 : upH (upH h (o + 1) (ints m F)) (o + 2) (ints m Sf) = h := by rw [upH_self h5, upH_self h6]
  iterate 2 (refine R_s kC9 rfl rfl ?_)
  refine R_max kC9 rfl (Nat.le_of_ble_eq_true rfl) ?_
  rw [if_neg (nI_nlt (show 0 ≤ i by omega) (by omega))]
  iterate 1 (refine R_s kC9 rfl rfl ?_)
  have key := lp_ROremove (F := F) (Sf := Sf) (i0 := i) d (fun r2 h2 => r2 = some (.int (nI (l.length - 1))) ∧ (frI o (o + 2) h h2 ∧ RowsC h2 o m (l.eraseIdx i))) h1 h2 h3 h4 (nI i) (fun F' Sf' w2 hF => ?_) (l.length - i) i F Sf (by omega) (by omega) (Nat.le_refl i) (fun q => ⟨fun hq => by rw [if_pos hq, if_pos hq]; exact ⟨rfl, rfl⟩, fun _ => ⟨rfl, rfl⟩⟩) (by omega)
  · rw [e0] at key
    exact key
  · have ho1 : (upH (upH h (o + 1) (ints m F')) (o + 2) (ints m Sf')).2 o = objA 4 [.int (nI l.length), .ref (o + 1), .ref (o + 2)] := by rw [upH_ne _ _ (by omega), upH_ne _ _ (by omega)]; exact h4
    repeat (refine R_s kC9 rfl rfl ?_)
    refine R_get kC9 rfl (ho1) rfl ?_
    repeat (refine R_s kC9 rfl rfl ?_)
    refine R_max kC9 rfl (Nat.le_of_ble_eq_true rfl) ?_
    rw [show nI l.length - nI 1 = nI (l.length - 1) from nI_dif (by omega), if_neg (nI_nlt (show 0 ≤ l.length - 1 by omega) (by omega))]
    refine R_put kC9 rfl ho1 h3 (Nat.le_of_ble_eq_true rfl) rfl ?_
    repeat (refine R_s kC9 rfl rfl ?_)
    refine R_get kC9 rfl (upH_at _ o _) rfl ?_
    refine R_ri kC9 rfl ⟨rfl, (((frI.refl o (o + 2) h).up _ (show o ≤ o + 1 by omega) (by omega)).up _ (show o ≤ o + 2 by omega) (by omega)).up _ (Nat.le_refl o) (by omega), ?_, h2, h3, ?_, F', Sf', ?_, ?_, ?_⟩
    · rw [List.length_eraseIdx_of_lt hi]; omega
    · rw [upH_at, List.length_eraseIdx_of_lt hi]; rfl
    · rw [upH_ne _ _ (by omega), upH_ne _ _ (by omega), upH_at]
    · rw [upH_ne _ _ (by omega), upH_at]
    · intro q x hx
      have hq := (List.getElem?_eq_some_iff.mp hx).1
      rw [List.length_eraseIdx_of_lt hi] at hq
      rw [(hF q hq).1, (hF q hq).2]
      rw [List.getElem?_eraseIdx] at hx
      split at hx
      · rename_i hlt
        rw [if_pos hlt, if_pos hlt]
        exact h7 q x hx
      · rename_i hlt
        rw [if_neg hlt, if_neg hlt]
        exact h7 (q + 1) x hx
theorem lp_ROcopy (d : Nat) {p : Nat} {l2 : List (Int32 × Int32)} (hdis : p + 2 < o ∨ o + 2 < p) (h3 : 3 ≤ o) (hm : m < 1000) (hl2 : l2.length ≤ m) (hP : RowsC h p m l2) (ho : h.2 o = objA 4 [.int (nI l2.length), .ref (o + 1), .ref (o + 2)]) : ∀ (j i : Nat) (F' Sf' : Nat → Int32), i + j = l2.length → (∀ q x, q < i → l2[q]? = some x → F' q = x.1 ∧ Sf' q = x.2) → R (d + 1) 6 10 [some (.ref o), some (.ref p), some (.int (nI i))] [] (upH (upH h (o + 1) (ints m F')) (o + 2) (ints m Sf')) (fun r2 h2 => r2 = none ∧ ∃ F2 Sf2, h2 = upH (upH h (o + 1) (ints m F2)) (o + 2) (ints m Sf2) ∧ rwF l2 F2 Sf2) := by
  have kC9 := co_RO_copy
  intro j
  induction j with
  | zero =>
    intro i F' Sf' hi hF
    have ho1 : (upH (upH h (o + 1) (ints m F')) (o + 2) (ints m Sf')).2 o = objA 4 [.int (nI l2.length), .ref (o + 1), .ref (o + 2)] := by rw [upH_ne _ _ (by omega), upH_ne _ _ (by omega)]; exact ho
    repeat (refine R_s kC9 rfl rfl ?_)
    refine R_get kC9 rfl (ho1) rfl ?_
    refine R_ge kC9 rfl (rfl) (rfl) (by omega) (by omega) (fun hc => ?_) (fun hc => ?_)
    · exact R_rv kC9 rfl ⟨rfl, F', Sf', rfl, fun q x hx => hF q x (by have := (List.getElem?_eq_some_iff.mp hx).1; omega) hx⟩
    · omega
  | succ j ih =>
    intro i F' Sf' hi hF
    have ho1 : (upH (upH h (o + 1) (ints m F')) (o + 2) (ints m Sf')).2 o = objA 4 [.int (nI l2.length), .ref (o + 1), .ref (o + 2)] := by rw [upH_ne _ _ (by omega), upH_ne _ _ (by omega)]; exact ho
    have hf1 : (upH (upH h (o + 1) (ints m F')) (o + 2) (ints m Sf')).2 (o + 1) = ints m F' := by rw [upH_ne _ _ (by omega), upH_at]
    obtain ⟨x, hx⟩ : ∃ x, l2[i]? = some x := ⟨l2[i], List.getElem?_eq_getElem (by omega)⟩
    have hP1 : ∀ (A B : Nat → Int32), RowsC (upH (upH h (o + 1) (ints m A)) (o + 2) (ints m B)) p m l2 := fun A B => hP.congr (fun q q1 q2 => by rw [upH_ne _ _ (by omega), upH_ne _ _ (by omega)])
    repeat (refine R_s kC9 rfl rfl ?_)
    refine R_get kC9 rfl (ho1) rfl ?_
    refine R_ge kC9 rfl (rfl) (rfl) (by omega) (by omega) (fun hc => ?_) (fun hc => ?_)
    · omega
    · repeat (refine R_s kC9 rfl rfl ?_)
      refine R_get kC9 rfl (ho1) rfl ?_
      repeat (refine R_s kC9 rfl rfl ?_)
      refine R_cv kC9 rfl rfl rfl rfl (hP1 F' Sf').2.2.2.1 (hP1 F' Sf').2.2.1 (cl_RO_firstAt d (hP1 F' Sf') hx) ?_
      refine R_ist kC9 rfl hf1 (by omega) (k := i) rfl (by omega) (by omega) ?_
      have hu : upH (upH (upH h (o + 1) (ints m F')) (o + 2) (ints m Sf')) (o + 1) (ints m (upd F' i x.1)) = upH (upH h (o + 1) (ints m (upd F' i x.1))) (o + 2) (ints m Sf') := by rw [upH_comm _ _ _ (show o + 2 ≠ o + 1 by omega), upH_upH]
      rw [hu]
      have ho2 : (upH (upH h (o + 1) (ints m (upd F' i x.1))) (o + 2) (ints m Sf')).2 o = objA 4 [.int (nI l2.length), .ref (o + 1), .ref (o + 2)] := by rw [upH_ne _ _ (by omega), upH_ne _ _ (by omega)]; exact ho
      repeat (refine R_s kC9 rfl rfl ?_)
      refine R_get kC9 rfl (ho2) rfl ?_
      repeat (refine R_s kC9 rfl rfl ?_)
      refine R_cv kC9 rfl rfl rfl rfl (hP1 _ Sf').2.2.2.1 (hP1 (upd F' i x.1) Sf').2.2.1 (cl_RO_secondAt d (hP1 (upd F' i x.1) Sf') hx) ?_
      refine R_ist kC9 rfl (upH_at _ _ _) (by omega) (k := i) rfl (by omega) (by omega) ?_
      rw [upH_upH]
      repeat (refine R_s kC9 rfl rfl ?_)
      refine R_g kC9 rfl ?_
      refine (show R (d + 1) 6 10 [some (.ref o), some (.ref p), some (.int (nI i + nI 1))] [] _ _ from ?_)
      rw [nI_add]
      refine ih (i + 1) _ _ (by omega) (fun q y hq hy => ?_)
      by_cases e : q = i
      · subst e
        rw [pk_us, pk_us]
        rw [hx] at hy
        cases hy
        exact ⟨rfl, rfl⟩
      · rw [pk_un e, pk_un e]
        exact hF q y (by omega) hy
theorem cl_RO_copy (d : Nat) {p : Nat} {l2 : List (Int32 × Int32)} (hR : RowsC h o m l) (hP : RowsC h p m l2) (hdis : p + 2 < o ∨ o + 2 < p) : ∃ h', (frI o (o + 2) h h' ∧ RowsC h' o m l2) ∧ Cl (d + 1) 6 [.ref o, .ref p] h none h' := by
  obtain ⟨h1, h2, h3, h4, F, Sf, h5, h6, h7⟩ := hR
  have kC9 := co_RO_copy
  refine Cl_eH kC9 rfl rfl ?_
  have hP4 := hP.2.2.2.1
  have hPl := hP.1
  repeat (refine R_s kC9 rfl rfl ?_)
  refine R_get kC9 rfl (hP4) rfl ?_
  repeat (refine R_s kC9 rfl rfl ?_)
  refine R_get kC9 rfl (h4) rfl ?_
  refine R_alen kC9 rfl h5 (by omega) ?_
  refine R_min kC9 rfl (Nat.le_of_ble_eq_true rfl) ?_
  rw [if_neg (nI_nlt hPl (by omega))]
  refine R_put kC9 rfl h4 h3 (Nat.le_of_ble_eq_true rfl) rfl ?_
  refine (show R (d + 1) 6 8 [some (.ref o), some (.ref p), none] [] (upH h o (objA 4 [.int (nI l2.length), .ref (o + 1), .ref (o + 2)])) _ from ?_)
  have hP1 : RowsC (upH h o (objA 4 [.int (nI l2.length), .ref (o + 1), .ref (o + 2)])) p m l2 := hP.congr (fun q q1 q2 => by rw [upH_ne _ _ (by omega)])
  iterate 2 (refine R_s kC9 rfl rfl ?_)
  have key := lp_ROcopy d hdis h3 h2 hPl hP1 (upH_at _ _ _) l2.length 0 F Sf (by omega) (fun q x hq _ => by omega)
  rw [upH_self (show (upH h o (objA 4 [.int (nI l2.length), .ref (o + 1), .ref (o + 2)])).2 (o + 1) = ints m F from (upH_ne _ _ (by omega)).trans h5), upH_self (show (upH h o (objA 4 [.int (nI l2.length), .ref (o + 1), .ref (o + 2)])).2 (o + 2) = ints m Sf from (upH_ne _ _ (by omega)).trans h6)] at key
  obtain ⟨n, r, h', hr, e1, F2, Sf2, e2, e3⟩ := key
  refine ⟨n, r, h', hr, e1, ?_⟩
  subst e2
  refine ⟨(((frI.refl o (o + 2) h).up _ (Nat.le_refl o) (by omega)).up _ (show o ≤ o + 1 by omega) (by omega)).up _ (show o ≤ o + 2 by omega) (by omega), hPl, h2, h3, ?_, F2, Sf2, ?_, upH_at _ _ _, e3⟩
  · rw [upH_ne _ _ (by omega), upH_ne _ _ (by omega), upH_at]
  · rw [upH_ne _ _ (by omega), upH_at]
end
