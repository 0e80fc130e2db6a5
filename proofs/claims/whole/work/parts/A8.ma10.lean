/-! MATHEMATICS, 10: the set-up's invariant -/
def UI (U : US) : Prop := RowsOK U ∧ RowsIn U ∧ Fam U.1 U.2.1 ∧ Lin U.1 U.2.2.1 ∧ Nst U.1 U.2.1 (· ∈ U.2.2.2.1) ∧ U.2.2.2.1.Nodup
section
variable {U : US}
theorem UI.pts (h : UI U) (v : Int32) : UI (specPoints U v).2 := by
  unfold specPoints
  split
  · rename_i q
    obtain ⟨k, k1, k2, k3, rfl⟩ := rng_nI (a := 2) (b := 5) q
    obtain ⟨h1, h2, h3, h4, h5, h6⟩ := h
    rw [nI_clamp k3]
    exact ⟨⟨Nat.zero_le _, h1.2⟩, ⟨(fun s hs => by cases hs), h2.2⟩, Fam.make k1 k2 0, Lin.zero, Nst.nil, List.nodup_nil⟩
  · exact h
theorem UI.mk' (h : UI U) {S : Int32} (hF : Fam U.1 S) : UI (U.1, S, U.2.2.1, [], U.2.2.2.2) := by
  obtain ⟨h1, h2, h3, h4, h5, h6⟩ := h
  exact ⟨⟨Nat.zero_le _, h1.2⟩, ⟨(fun s hs => by cases hs), h2.2⟩, hF, h4, Nst.nil, List.nodup_nil⟩
theorem UI.make (h : UI U) (v : Int32) : UI (specMake U v).2 := by
  unfold specMake
  split
  · exact h.mk' (Fam.make h.2.2.1.1 h.2.2.1.2.1 _)
  · exact h
theorem UI.comes (h : UI U) (v : Int32) : UI (specComes U v).2 := by
  unfold specComes
  split
  · rename_i q
    obtain ⟨s, s1, s2, s3, rfl⟩ := setB_of h.2.2.1.2.1 q
    rw [nI_clamp (by omega)]
    by_cases hb : bt U.2.1 s = true
    · have : joinS U.2.1 s = U.2.1 := by unfold joinS; rw [if_pos hb]
      show UI (U.1, joinS U.2.1 s, U.2.2.1, if bt U.2.1 s = true then U.2.2.2.1 else [], U.2.2.2.2)
      rw [if_pos hb, this]
      exact h
    · show UI (U.1, joinS U.2.1 s, U.2.2.1, if bt U.2.1 s = true then U.2.2.2.1 else [], U.2.2.2.2)
      rw [if_neg hb]
      exact h.mk' (h.2.2.1.join s1 s2)
  · exact h
theorem UI.goes (h : UI U) (v : Int32) : UI (specGoes U v).2 := by
  unfold specGoes
  split
  · split
    · rename_i hl
      exact h.mk' (h.2.2.1.del hl)
    · exact h
  · exact h
theorem twoB_of {n : Nat} {a b : Int32} (hn : n ≤ 5) (h : twoB n a b = true) : a.toNatClampNeg < n ∧ b.toNatClampNeg < n ∧ a.toNatClampNeg ≠ b.toNatClampNeg := by
  unfold twoB ptB at h
  rw [Bool.and_eq_true, Bool.and_eq_true, decide_eq_true_eq, decide_eq_true_eq, Bool.not_eq_true', decide_eq_false_iff_not] at h
  obtain ⟨⟨⟨a0, a1⟩, b0, b1⟩, hne⟩ := h
  obtain ⟨x, x1, x2, x3, rfl⟩ := rng_nI (a := 0) (b := n - 1) (v := a) ⟨a0, by omega⟩
  obtain ⟨y, y1, y2, y3, rfl⟩ := rng_nI (a := 0) (b := n - 1) (v := b) ⟨b0, by omega⟩
  rw [nI_clamp x3, nI_clamp y3]
  rw [nI_toInt x3] at a1
  rw [nI_toInt y3] at b1
  exact ⟨by omega, by omega, fun e => hne (by rw [e])⟩
theorem UI.set (h : UI U) {a b : Nat} (ha : a < U.1) (hb : b < U.1) (hab : a ≠ b) (v : Bool) : UI (U.1, U.2.1, setL U.2.2.1 a b v, U.2.2.2) := by
  obtain ⟨h1, h2, h3, h4, h5, h6⟩ := h
  exact ⟨h1, h2, h3, h4.set h3.2.1 ha hb hab v, h5, h6⟩
theorem UI.line (h : UI U) (a b i : Int32) : UI (specLine U a b i).2 := by
  unfold specLine
  split
  · split
    · rename_i q _
      obtain ⟨q1, q2, q3⟩ := twoB_of h.2.2.1.2.1 q
      exact h.set q1 q2 q3 _
    · exact h
  · exact h
theorem UI.chP (h : UI U) : chP U := by
  obtain ⟨h1, h2, h3, h4, h5, h6⟩ := h
  refine ⟨?_, h6, fun t ht => h2.1 t ht⟩
  rw [List.pairwise_iff_getElem]
  intro i j hi hj hij
  have l := h5.2.1 _ _ (List.getElem_mem hi) (List.getElem_mem hj)
  exact lam_iff.mpr l
theorem UI.take (h : UI U) {v : Int32} (h1 : inF U.1 U.2.1 v = true) (h2 : v ≠ nI (2 ^ U.1 - 1)) (h3 : idxF v U.2.2.2.1 0 = none) (h4 : TakesR U.2.1 U.2.2.2.1 v.toNatClampNeg) : ∃ s, v = nI s ∧ 1 ≤ s ∧ s < 32 ∧ Nst U.1 U.2.1 (· ∈ U.2.2.2.1 ++ [s]) ∧ (U.2.2.2.1 ++ [s]).Nodup ∧ U.2.2.2.1.length + 2 ≤ U.1 := by
  obtain ⟨r1, r2, hF, hL, hN, hd⟩ := h
  unfold inF at h1
  rw [Bool.and_eq_true] at h1
  obtain ⟨s, s1, s2, s3, rfl⟩ := setB_of hF.2.1 h1.1
  have p5 := pow5 hF.2.1
  rw [nI_clamp (by omega)] at h1 h4
  have sW : s < 2 ^ U.1 - 1 := by
    have : s ≠ 2 ^ U.1 - 1 := fun e => h2 (by rw [e])
    omega
  have hT := (take_nst hF hN hd h1.2 sW).mp h4
  have hd2 : (U.2.2.2.1 ++ [s]).Nodup := by
    rw [List.nodup_append]
    refine ⟨hd, by simp, fun a ha b hb => ?_⟩
    have : b = s := by simpa using hb
    rw [this]
    exact fun e => (idxF_none _ _).mp h3 a ha (by rw [e])
  have := nst_len hF hT hd2
  rw [List.length_append] at this
  exact ⟨s, rfl, s1, s3, hT, hd2, by simpa using this⟩
theorem UI.ch3 (h : UI U) : ch3 U := fun v h1 h2 h3 h4 => by
  obtain ⟨s, _, _, _, _, _, q⟩ := h.take h1 h2 h3 h4
  have := h.2.2.1.2.1
  omega
theorem UI.choose (h : UI U) (v : Int32) : UI (specChoose U v).2 := by
  unfold specChoose
  split
  · rename_i q
    split
    · rename_i q2
      have q2 := pb_true.mp q2
      obtain ⟨s, rfl, s1, s2, s3, s4, s5⟩ := h.take q.1 q.2 q2.1 q2.2
      obtain ⟨r1, r2, hF, hL, hN, hd⟩ := h
      have := hF.2.1
      rw [nI_clamp (by omega)]
      refine ⟨⟨by show (U.2.2.2.1 ++ [s]).length ≤ 4; rw [List.length_append]; simp; omega, r1.2⟩, ⟨fun t ht => ?_, r2.2⟩, hF, hL, s3, s4⟩
      rcases List.mem_append.mp ht with z | z
      · exact r2.1 t z
      · have : t = s := by simpa using z
        omega
    · exact h
  · exact h
theorem UI.drop (h : UI U) (v : Int32) : UI (specDrop U v).2 := by
  unfold specDrop
  split
  · rename_i i hi
    obtain ⟨r1, r2, hF, hL, hN, hd⟩ := h
    have sub := List.eraseIdx_sublist U.2.2.2.1 i
    refine ⟨⟨Nat.le_trans sub.length_le r1.1, r1.2⟩, ⟨fun t ht => r2.1 t (sub.subset ht), r2.2⟩, hF, hL, hN.mono (fun t ht => sub.subset ht), hd.sublist sub⟩
  · exact h
theorem UI.see (h : UI U) (k n : Int32) : UI (specSee U k n).2 := by
  obtain ⟨r1, r2, hF, hL, hN, hd⟩ := h
  unfold specSee
  split
  · exact ⟨⟨r1.1, Nat.zero_le _, r1.2.2⟩, ⟨r2.1, (fun x hx => by cases hx), r2.2.2⟩, hF, hL, hN, hd⟩
  split
  · rename_i q1
    split
    · rename_i q2
      split
      · exact ⟨r1, r2, hF, hL, hN, hd⟩
      · rename_i q3
        obtain ⟨j, _, j2, j3, rfl⟩ := rng_nI (a := 0) (b := 4) q1
        obtain ⟨m, _, m2, m3, rfl⟩ := rng_nI (a := 0) (b := 999) q2
        refine ⟨⟨r1.1, by show (U.2.2.2.2.1 ++ [_]).length ≤ 4; rw [List.length_append]; have := r1.2.1; simp; omega, r1.2.2⟩, ⟨r2.1, fun x hx => ?_, r2.2.2⟩, hF, hL, hN, hd⟩
        rcases List.mem_append.mp hx with z | z
        · exact r2.2.1 x z
        · exact ⟨j, m, j2, m2, by simpa using z⟩
    · exact ⟨r1, r2, hF, hL, hN, hd⟩
  · exact ⟨r1, r2, hF, hL, hN, hd⟩
theorem evOk_of {n : Nat} {k v : Int32} (hn : n ≤ 5) (h : evOk n k v = true) (h3 : ¬ (k = 3 ∧ ¬ (0 ≤ v.toInt ∧ v.toInt ≤ 99))) : ∃ j m, vEv j m ∧ k = nI j ∧ v = nI m := by
  unfold evOk at h
  rw [Bool.and_eq_true, Bool.and_eq_true, decide_eq_true_eq, Bool.or_eq_true, Bool.or_eq_true, Bool.not_eq_true', Bool.not_eq_true', decide_eq_false_iff_not, decide_eq_false_iff_not, decide_eq_true_eq] at h
  obtain ⟨⟨a, b⟩, c⟩ := h
  obtain ⟨j, _, j2, j3, rfl⟩ := rng_nI (a := 0) (b := 3) a
  rw [nI_toInt j3] at b
  unfold vEv
  match j, j2 with
  | 0, _ =>
    rcases b with b | b
    · exact absurd (by decide) b
    · obtain ⟨s, s1, s2, s3, rfl⟩ := setB_of hn b
      exact ⟨0, s, Or.inl ⟨by omega, s1, s3⟩, rfl, rfl⟩
  | 1, _ =>
    rcases b with b | b
    · exact absurd (by decide) b
    · obtain ⟨s, s1, s2, s3, rfl⟩ := setB_of hn b
      exact ⟨1, s, Or.inl ⟨by omega, s1, s3⟩, rfl, rfl⟩
  | 2, _ =>
    rcases c with c | c
    · exact absurd rfl c
    · obtain ⟨m, _, m2, m3, rfl⟩ := rng_nI (a := 0) (b := 6) c
      exact ⟨2, m, Or.inr (Or.inl ⟨rfl, m2⟩), rfl, rfl⟩
  | 3, _ =>
    have c : 0 ≤ v.toInt ∧ v.toInt ≤ 99 := Classical.byContradiction (fun q => h3 ⟨rfl, q⟩)
    obtain ⟨m, _, m2, m3, rfl⟩ := rng_nI (a := 0) (b := 99) c
    exact ⟨3, m, Or.inr (Or.inr ⟨rfl, m2⟩), rfl, rfl⟩
theorem UI.event (h : UI U) (k v : Int32) : UI (specEvent U k v).2 := by
  obtain ⟨r1, r2, hF, hL, hN, hd⟩ := h
  unfold specEvent
  split
  · exact ⟨⟨r1.1, r1.2.1, Nat.zero_le _, r1.2.2.2⟩, ⟨r2.1, r2.2.1, (fun x hx => by cases hx), r2.2.2.2⟩, hF, hL, hN, hd⟩
  split
  · rename_i q1
    split
    · exact ⟨r1, r2, hF, hL, hN, hd⟩
    · rename_i q2
      split
      · exact ⟨r1, r2, hF, hL, hN, hd⟩
      · rename_i q3
        obtain ⟨j, m, e, rfl, rfl⟩ := evOk_of hF.2.1 q1 q2
        refine ⟨⟨r1.1, r1.2.1, by show (U.2.2.2.2.2.1 ++ [_]).length ≤ 8; rw [List.length_append]; have := r1.2.2.1; simp; omega, r1.2.2.2⟩, ⟨r2.1, r2.2.1, fun x hx => ?_, r2.2.2.2⟩, hF, hL, hN, hd⟩
        rcases List.mem_append.mp hx with z | z
        · exact r2.2.2.1 x z
        · exact ⟨j, m, e, by simpa using z⟩
  · exact ⟨r1, r2, hF, hL, hN, hd⟩
theorem UI.book (h : UI U) (k v : Int32) : UI (specBook U k v).2 := by
  obtain ⟨r1, r2, hF, hL, hN, hd⟩ := h
  unfold specBook
  split
  · exact ⟨⟨r1.1, r1.2.1, r1.2.2.1, Nat.zero_le _⟩, ⟨r2.1, r2.2.1, r2.2.2.1, (fun x hx => by cases hx)⟩, hF, hL, hN, hd⟩
  split
  · rename_i q1
    split
    · rename_i q2
      split
      · exact ⟨r1, r2, hF, hL, hN, hd⟩
      · rename_i q3
        obtain ⟨s, s1, s2, s3, rfl⟩ := setB_of hF.2.1 q1
        obtain ⟨m, _, m2, m3, rfl⟩ := rng_nI (a := 0) (b := 1) q2
        refine ⟨⟨r1.1, r1.2.1, r1.2.2.1, by show (U.2.2.2.2.2.2 ++ [_]).length ≤ 8; rw [List.length_append]; have := r1.2.2.2; simp; omega⟩, ⟨r2.1, r2.2.1, r2.2.2.1, fun x hx => ?_⟩, hF, hL, hN, hd⟩
        rcases List.mem_append.mp hx with z | z
        · exact r2.2.2.2 x z
        · have : x = (nI s, nI m) := by simpa using z
          rw [this]
          refine ⟨s, s1, s3, rfl, ?_⟩
          match m, m2 with
          | 0, _ => exact Or.inl rfl
          | 1, _ => exact Or.inr rfl
    · exact ⟨r1, r2, hF, hL, hN, hd⟩
  · exact ⟨r1, r2, hF, hL, hN, hd⟩
theorem UI.clause (h : UI U) (c : Int32) (ds : List Nat) : UI (doCl U c ds).2 := by
  unfold doCl
  split
  · exact h.pts _
  split
  · exact h.make _
  split
  · exact h.line _ _ _
  split
  · exact h.comes _
  split
  · exact h.goes _
  · exact h.choose _
theorem UI.happens (h : UI U) {j m : Nat} (hv : vEv j m) : UI (evU U j m) := by
  unfold evU
  split
  · exact h.comes _
  split
  · exact h.goes _
  split
  · exact h.make _
  split
  · rename_i q
    have hm : m ≤ 99 := by unfold vEv at hv; omega
    obtain ⟨q1, q2, q3⟩ := twoB_of h.2.2.1.2.1 q
    rw [nI_clamp (by omega)] at q1 q3
    rw [nI_clamp (by omega)] at q2 q3
    exact h.set q1 q2 q3 _
  · exact h
theorem UI.FG (h : UI U) : FG U.1 U.2.1 := FG_of h.2.2.1
theorem UI.hv (h : UI U) : hvF (chM U.2.2.2.1) (cornM U.1 U.2.1) 0 ≠ none := by
  obtain ⟨r1, r2, hF, hL, hN, hd⟩ := h
  obtain ⟨y, y1, y2⟩ := corner_of hF hN hd
  obtain ⟨c, c1, c2⟩ := crL_ix y1
  have gen : ∀ (A : Int32) (l : List Int32) (i k : Nat) (x : Int32), l[k]? = some x → x &&& A = A → hvF A l i ≠ none := by
    intro A l
    induction l with
    | nil => intro i k x hk; simp at hk
    | cons z l ih =>
      intro i k x hk hx
      rw [hvF_cons]
      split
      · simp
      · rename_i hq
        cases k with
        | zero =>
          have : z = x := by simpa using hk
          rw [this] at hq
          exact absurd hx hq
        | succ k => exact ih (i + 1) k x (by simpa using hk) hx
  refine gen _ _ 0 c _ (cornM_get c1) ?_
  apply b_ext
  intro i hi
  rw [b_and, chM_bt hi, chM_bt hi, c2]
  by_cases e : i ∈ U.2.2.2.1
  · rw [decide_eq_true e, decide_eq_true (y2 i e)]; rfl
  · rw [decide_eq_false e, Bool.and_false]
theorem UI_good : Good UI := ⟨fun U h => ⟨h.1, h.2.2.1, fun t ht => (h.2.1.1 t ht).2, h.ch3⟩, fun U c ds h => h.clause c ds⟩
theorem UI_goodC : GoodC UI := ⟨fun U h => ⟨h.2.2.1, h.2.2.2.1, h.chP, h.ch3⟩, fun U c ds h => h.clause c ds⟩
theorem UI_goodE : GoodE UI := ⟨fun U h => ⟨h.1, h.2.2.1, h.FG.2.1, h.FG.2.2.1.1⟩, fun U j m h hv => h.happens hv⟩
theorem UI_goodA : GoodA UI := ⟨fun U h => ⟨h.FG, h.2.2.2.1⟩, fun U j m h hv => h.happens hv⟩
theorem UI.rd (tx : List Nat) : ∀ (f p : Nat) (U : US) (dn : Nat), UI U → UI (rdF tx f p U dn).1
  | 0, _, U, dn, h => h
  | f + 1, p, U, dn, h => by
    unfold rdF
    split
    · refine UI.rd tx f _ _ _ ?_
      split
      · exact h.clause _ _
      · exact h
    · exact h
theorem UI.read (h : UI U) (tx : List Nat) : UI (specRead U tx).2 := by
  unfold specRead
  split
  · exact h
  · exact UI.rd tx _ _ _ _ h
theorem UI0 : UI (4, makeS 4 0 0, 0, [], [], [], []) := ⟨⟨Nat.zero_le _, Nat.zero_le _, Nat.zero_le _, Nat.zero_le _⟩, ⟨(fun x hx => by cases hx), (fun x hx => by cases hx), (fun x hx => by cases hx), (fun x hx => by cases hx)⟩, Fam.make (by omega) (by omega) 0, Lin.zero, Nst.nil, List.nodup_nil⟩
end
section
variable {T : TPS}
theorem TPok.upd (h : TPok T) {t : Nat} {z : Int32 × List Int64} (hz : z.2.length ≤ 60 ∧ ((z.1 = -1 ∧ z.2 = []) ∨ ∃ o, o ≤ 4 ∧ z.1 = nI o)) : TPok (updT T t z) := by
  intro q hq
  unfold updT
  by_cases e : q = t
  · rw [if_pos e]; exact hz
  · rw [if_neg e]; exact h q hq
theorem TPok.tape (h : TPok T) (t o n : Int32) : TPok (specTape T t o n).2 := by
  unfold specTape
  split
  · split
    · exact h
    · rename_i q
      split
      · exact h
      · rename_i q2
        apply h.upd
        by_cases e : o = -1
        · subst e
          rw [if_pos rfl]
          exact ⟨Nat.zero_le _, Or.inl ⟨rfl, rfl⟩⟩
        · have q' := not_or.mp q
          have a := Classical.byContradiction q'.1
          have b : ¬ 60 < n.toInt := fun z => q'.2 ⟨e, z⟩
          have c : ¬ n.toInt < 0 := fun z => q2 ⟨e, z⟩
          obtain ⟨m, _, m2, m3, rfl⟩ := rng_nI (a := 0) (b := 60) (v := n) ⟨by omega, by omega⟩
          have e2 : o.toInt ≠ -1 := fun z => e (Int32.toInt_inj.mp (by rw [z]; rfl))
          obtain ⟨k, _, k2, k3, rfl⟩ := rng_nI (a := 0) (b := 4) (v := o) ⟨by omega, by omega⟩
          refine ⟨?_, Or.inr ⟨k, k2, rfl⟩⟩
          show (List.replicate (if nI k = -1 then 0 else _) (0 : Int64)).length ≤ 60
          rw [if_neg e, List.length_replicate, nI_clamp m3]
          exact m2
  · exact h
theorem tpI_lt {v : Int32} (h : tpI v = true) : v.toNatClampNeg < 6 := by
  unfold tpI at h
  have h := of_decide_eq_true h
  obtain ⟨k, _, k2, k3, rfl⟩ := rng_nI (a := 0) (b := 5) (v := v) ⟨by omega, by omega⟩
  rw [nI_clamp k3]; omega
theorem TPok.item (h : TPok T) (t i : Int32) (v : Int64) : TPok (specItem T t i v).2 := by
  unfold specItem
  split
  · rename_i q
    split
    · exact h
    · rename_i q2
      split
      · apply h.upd
        obtain ⟨a, b⟩ := h _ (tpI_lt q)
        refine ⟨by show (List.set _ _ _).length ≤ 60; rw [List.length_set]; exact a, ?_⟩
        rcases b with b | b
        · exact absurd b.1 q2
        · exact Or.inr b
      · exact h
  · exact h
theorem TPok.shift (h : TPok T) (t i o j n : Int32) : TPok (specShift T t i o j n).2 := by
  unfold specShift
  split
  · rename_i q
    rw [Bool.and_eq_true] at q
    split
    · exact h
    · rename_i q2
      split
      · exact h
      · split
        · exact h
        · apply h.upd
          obtain ⟨a, b⟩ := h _ (tpI_lt q.2)
          refine ⟨by show (cpyL _ _ _ _ _).length ≤ 60; rw [cpyL_len]; exact a, ?_⟩
          rcases b with b | b
          · exact absurd (Or.inr b.1) q2
          · exact Or.inr b
  · exact h
theorem TPok0 : TPok (fun _ => (-1, [])) := fun t _ => ⟨Nat.zero_le _, Or.inl ⟨rfl, rfl⟩⟩
end
