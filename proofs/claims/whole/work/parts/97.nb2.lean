/-! THE CLASS, 27: NestedBodies: choose, drop, feed -/
theorem nodup_idx2 {l : List Nat} {i j t : Nat} (hn : l.Nodup) (hi : l[i]? = some t) (hj : l[j]? = some t) : i = j := nodup_idx hn hi hj
/-- a set comes to a nest, in whatever order that is told -/
theorem takes_nt {S : Int32} {ns : List Nat} {s : Nat} (hlam : ns.Pairwise lam) (hnd : ns.Nodup) (hns : ∀ t ∈ ns, 1 ≤ t ∧ t < 32) (hs : s < 32) : TakesR S ns s ↔ ntP S (chM ns) s := by
  have hidx : ∀ {t : Nat}, t ∈ ns → ∃ i, i < ns.length ∧ ns[i]? = some t := by
    intro t ht
    obtain ⟨i, hi, e⟩ := List.mem_iff_getElem.mp ht
    exact ⟨i, hi, by rw [List.getElem?_eq_getElem hi, e]⟩
  have hmem : ∀ {i t : Nat}, ns[i]? = some t → t ∈ ns := fun h => List.mem_of_getElem? h
  have hlt : ∀ {i j t u : Nat}, ns[i]? = some t → ns[j]? = some u → i < j → lam t u := by
    intro i j t u h1 h2 hij
    have j1 := (List.getElem?_eq_some_iff.mp h2).1
    have i1 := (List.getElem?_eq_some_iff.mp h1).1
    have p1 := List.pairwise_iff_getElem.mp hlam i j i1 j1 hij
    rw [(List.getElem?_eq_some_iff.mp h1).2, (List.getElem?_eq_some_iff.mp h2).2] at p1
    exact p1
  constructor
  · rintro ⟨hl, hu⟩
    refine ⟨fun t ht => ?_, ?_⟩
    · have ht32 := els32 _ t ht
      have htn : t ∈ ns := by
        have := (els_mem.mp ht).2
        rw [chM_bt ht32] at this
        exact of_decide_eq_true this
      rcases hl t htn with h | h | h
      · exact Or.inl (by rw [Nat.and_comm]; exact h)
      · exact Or.inr (Or.inl (by rw [Nat.or_comm]; exact or_iff.mpr h))
      · exact Or.inr (Or.inr (or_iff.mpr (by rw [Nat.and_comm]; exact h)))
    · rintro ⟨y, hy0, hyA, hyS⟩
      -- what y has
      have hy : ∀ t, t < 32 → bt y t = true → t ∈ ns ∧ s &&& t = 0 := by
        intro t ht hb
        have : bt (y &&& apM (chM ns) s) t = true := by rw [hyA]; exact hb
        unfold apM at this
        rw [b_and, maskOf_bt _ ht, chM_bt ht] at this
        simp only [Bool.and_eq_true, decide_eq_true_eq] at this
        exact this.2
      let mx : Nat → Prop := fun t => bt y t = true ∧ t < 32 ∧ ∀ u, u < 32 → bt y u = true → t &&& u = t → u = t
      let sel : Nat → Bool := fun i => pb (mx (ns.getD i 0))
      have hsel : ∀ {i t : Nat}, ns[i]? = some t → (sel i = true ↔ mx t) := by
        intro i t h
        show pb _ = true ↔ _
        rw [gD h]; exact pb_true
      have hex : ∀ t, t < 32 → bt y t = true → ∃ m, mx m ∧ t &&& m = t := by
        intro t ht hb
        obtain ⟨m, m1, ⟨m2, m3⟩, m4⟩ := greatest (fun u => bt y u = true ∧ t &&& u = t) 32 t ht ⟨hb, Nat.and_self t⟩
        refine ⟨m, ⟨m2, m1, fun u hu hbu hmu => ?_⟩, m3⟩
        have h1 := m4 u hu ⟨hbu, sub_iff.mpr (fun q hq => (sub_iff.mp hmu) q ((sub_iff.mp m3) q hq))⟩
        have h2 := sub_le hmu
        omega
      obtain ⟨t0, l0, ht0⟩ : ∃ t l, els y = t :: l := by
        cases he : els y with
        | nil => exact absurd (els_nil.mp he) hy0
        | cons t l => exact ⟨t, l, rfl⟩
      have ht0m := els_mem.mp (show t0 ∈ els y by rw [ht0]; exact List.mem_cons_self)
      obtain ⟨m0, hm0, _⟩ := hex t0 ht0m.1 ht0m.2
      have hm0n := (hy m0 hm0.2.1 hm0.1).1
      have key := hu (natM sel ns.length) ?_ (natM_lt _ _) ?_
      · have e : unN ns (natM sel ns.length) s ns.length = unL (els y) s := by
          apply Nat.eq_of_testBit_eq
          intro q
          have h1 := unN_tb ns (natM sel ns.length) s ns.length q
          have h2 := unL_tb (els y) s q
          have h3 : (∃ i, i < ns.length ∧ (natM sel ns.length).testBit i = true ∧ (ns.getD i 0).testBit q = true) ↔ ∃ t ∈ els y, t.testBit q = true := by
            constructor
            · rintro ⟨i, hi, h4, h5⟩
              have hi2 : ns[i]? = some (ns[i]) := List.getElem?_eq_getElem hi
              rw [natM_tb, decide_eq_true hi, Bool.true_and, hsel hi2] at h4
              rw [gD hi2] at h5
              exact ⟨ns[i], els_mem.mpr ⟨h4.2.1, h4.1⟩, h5⟩
            · rintro ⟨t, ht, h5⟩
              obtain ⟨t1, t2⟩ := els_mem.mp ht
              obtain ⟨m, m1, m2⟩ := hex t t1 t2
              obtain ⟨i, hi, him⟩ := hidx (hy m m1.2.1 m1.1).1
              exact ⟨i, hi, by rw [natM_tb, decide_eq_true hi, Bool.true_and, hsel him]; exact m1, by rw [gD him]; exact (sub_iff.mp m2) q h5⟩
          rw [h3] at h1
          exact bool_iff (h1.trans h2.symm)
        rw [e, hyS] at key
        cases key
      · obtain ⟨i, hi, him⟩ := hidx hm0n
        apply Nat.one_le_iff_ne_zero.mpr
        intro e0
        have : (natM sel ns.length).testBit i = true := by rw [natM_tb, decide_eq_true hi, Bool.true_and, hsel him]; exact hm0
        rw [e0, Nat.zero_testBit] at this
        cases this
      · intro j hj h3
        have hj2 : ns[j]? = some (ns[j]) := List.getElem?_eq_getElem hj
        rw [natM_tb, decide_eq_true hj, Bool.true_and, hsel hj2] at h3
        rw [gD hj2, dis_iff]
        intro q h4 h5
        rw [unN_tb] at h4
        rcases h4 with h4 | ⟨i, hi, h6, h7⟩
        · exact (dis_iff.mp (hy _ h3.2.1 h3.1).2) q h4 h5
        · have hi1 : i < ns.length := by omega
          have hi2 : ns[i]? = some (ns[i]) := List.getElem?_eq_getElem hi1
          rw [natM_tb, decide_eq_true hi1, Bool.true_and, hsel hi2] at h6
          rw [gD hi2] at h7
          have a1 := hlt hi2 hj2 hi
          have a2 : ns[i] ≠ ns[j] := fun e => by
            have := nodup_idx hnd hi2 (by rw [hj2, e])
            omega
          rcases a1 with a1 | a1 | a1
          · exact (dis_iff.mp a1) q h7 h5
          · have := h6.2.2 _ h3.2.1 h3.1 a1
            exact a2 this.symm
          · have := h3.2.2 _ h6.2.1 h6.1 (by rw [Nat.and_comm]; exact a1)
            exact a2 this
  · intro hq
    have hl : ∀ t ∈ ns, lam t s := by
      intro t ht
      have h32 := (hns t ht).2
      rcases hq.1 t (els_mem.mpr ⟨h32, by rw [chM_bt h32]; exact decide_eq_true ht⟩) with h | h | h
      · exact Or.inl (by rw [Nat.and_comm]; exact h)
      · exact Or.inr (Or.inl (or_iff.mp (by rw [Nat.or_comm]; exact h)))
      · exact Or.inr (Or.inr (by rw [Nat.and_comm]; exact or_iff.mp h))
    refine ⟨hl, fun sm h1 h2 hap => ?_⟩
    let sl : Nat → Bool := fun t => pb (∃ i, i < ns.length ∧ sm.testBit i = true ∧ ns[i]? = some t)
    have hsl : ∀ t, t < 32 → (bt (maskOf sl) t = true ↔ ∃ i, i < ns.length ∧ sm.testBit i = true ∧ ns[i]? = some t) := by
      intro t ht
      rw [maskOf_bt _ ht]; exact pb_true
    have h32 : ∀ t ∈ ns, t < 32 := fun t ht => (hns t ht).2
    cases hres : bt S (unN ns sm s ns.length) with
    | false => rfl
    | true =>
      exfalso
      apply hq.2
      refine ⟨maskOf sl, fun e0 => ?_, ?_, ?_⟩
      · -- some bit of sm is set
        have : ∃ i, i < ns.length ∧ sm.testBit i = true := by
          apply Classical.byContradiction
          intro hno
          have : sm = 0 := by
            apply Nat.eq_of_testBit_eq
            intro i
            rw [Nat.zero_testBit]
            cases hb : sm.testBit i with
            | false => rfl
            | true =>
              rcases Nat.lt_or_ge i ns.length with q | q
              · exact absurd ⟨i, q, hb⟩ hno
              · rw [Nat.testBit_lt_two_pow (Nat.lt_of_lt_of_le h2 (Nat.pow_le_pow_right (by omega) q))] at hb
                cases hb
          omega
        obtain ⟨i, hi, hb⟩ := this
        have hi2 : ns[i]? = some (ns[i]) := List.getElem?_eq_getElem hi
        have := (hsl _ (h32 _ (hmem hi2))).mpr ⟨i, hi, hb, hi2⟩
        rw [e0, b_0] at this
        cases this
      · apply b_ext
        intro t ht
        rw [b_and]
        cases hb : bt (maskOf sl) t with
        | false => rfl
        | true =>
          obtain ⟨i, hi, h3, h4⟩ := (hsl t ht).mp hb
          unfold apM
          rw [maskOf_bt _ ht, chM_bt ht, decide_eq_true (hmem h4)]
          have a0 := hap i hi h3
          rw [gD h4] at a0
          have : s &&& t = 0 := by
            rw [dis_iff]
            intro q q1 q2
            exact (dis_iff.mp a0) q ((unN_tb _ _ _ _ _).mpr (Or.inl q1)) q2
          rw [decide_eq_true this]; rfl
      · have e : unN ns sm s ns.length = unL (els (maskOf sl)) s := by
          apply Nat.eq_of_testBit_eq
          intro q
          have h1 := unN_tb ns sm s ns.length q
          have h2 := unL_tb (els (maskOf sl)) s q
          have h3 : (∃ i, i < ns.length ∧ sm.testBit i = true ∧ (ns.getD i 0).testBit q = true) ↔ ∃ t ∈ els (maskOf sl), t.testBit q = true := by
            constructor
            · rintro ⟨i, hi, h4, h5⟩
              have hi2 : ns[i]? = some (ns[i]) := List.getElem?_eq_getElem hi
              rw [gD hi2] at h5
              have l32 := h32 _ (hmem hi2)
              exact ⟨ns[i], els_mem.mpr ⟨l32, (hsl _ l32).mpr ⟨i, hi, h4, hi2⟩⟩, h5⟩
            · rintro ⟨t, ht, h5⟩
              obtain ⟨t1, t2⟩ := els_mem.mp ht
              obtain ⟨i, hi, h6, h7⟩ := (hsl t t1).mp t2
              exact ⟨i, hi, h6, by rw [gD h7]; exact h5⟩
          rw [h3] at h1
          exact bool_iff (h1.trans h2.symm)
        rw [← e]
        exact hres
theorem idxF_none {v : Int32} : ∀ (l : List Nat) (i : Nat), idxF v l i = none ↔ ∀ x ∈ l, nI x ≠ v
  | [], i => by simp [idxF]
  | x :: l, i => by
    rw [idxF_cons]
    by_cases e : nI x = v
    · rw [if_pos e]
      constructor
      · intro z; cases z
      · intro z; exact absurd e (z x List.mem_cons_self)
    · rw [if_neg e, idxF_none l (i + 1)]
      constructor
      · intro z y hy
        rcases List.mem_cons.mp hy with q | q
        · rw [q]; exact e
        · exact z y q
      · intro z y hy; exact z y (List.mem_cons_of_mem _ hy)
theorem idx_mem {s : Nat} (hs : s < 32) {ch : List Nat} (h32 : ∀ t ∈ ch, t < 32) : idxF (nI s) ch 0 = none ↔ s ∉ ch := by
  rw [idxF_none]
  constructor
  · intro z q; exact z s q rfl
  · intro z x hx e
    have := h32 x hx
    rw [nI_eq (by omega) (by omega)] at e
    exact z (e ▸ hx)
/-- what is chosen -/
def chP (U : US) : Prop := U.2.2.2.1.Pairwise lam ∧ U.2.2.2.1.Nodup ∧ ∀ t ∈ U.2.2.2.1, 1 ≤ t ∧ t < 32
/-- no set comes to four -/
def ch3 (U : US) : Prop := ∀ v, inF U.1 U.2.1 v = true → v ≠ nI (2 ^ U.1 - 1) → idxF v U.2.2.2.1 0 = none → TakesR U.2.1 U.2.2.2.1 v.toNatClampNeg → U.2.2.2.1.length ≤ 3
section
variable {h h' : AH} {U K V : US} {im : Bool} {tx : List Nat} {T : TPS}
theorem nb_choose (d : Nat) (hI : NBI h U K im tx T) (hF : Fam U.1 U.2.1) (hc : chP U) (h3 : ch3 U) (v : Int32) : ∃ h', NQ h (specChoose U v).2 K im tx T h' ∧ Cl (d + 4) 98 [.ref 3, .int v] h (some (.int (specChoose U v).1)) h' := by
  have kC9 := co_NB_choose
  have hn := hF.2.1
  have h32 : ∀ t ∈ U.2.2.2.1, t < 32 := fun t ht => (hc.2.2 t ht).2
  refine Cl_eH kC9 rfl rfl ?_
  unfold specChoose
  repeat (refine R_s kC9 rfl rfl ?_)
  refine R_get kC9 rfl (hI.ob) rfl ?_
  refine R_get kC9 rfl (hI.st.2.1) rfl ?_
  repeat (refine R_s kC9 rfl rfl ?_)
  refine R_cv kC9 rfl rfl rfl rfl hI.st.2.2.1.2 (by omega) (sp_FA_isFace d hI.st.2.2.1 hn v) ?_
  refine ZB_ne kC9 rfl (fun hd => ?_) (fun hd => ?_)
  · rw [Bool.and_eq_true, Bool.not_eq_true', decide_eq_false_iff_not] at hd
    rw [if_pos (show inF U.1 U.2.1 v = true ∧ v ≠ nI (2 ^ U.1 - 1) from hd)]
    have hv := hd.1
    unfold inF at hv
    rw [Bool.and_eq_true] at hv
    obtain ⟨s, s1, s2, s3, rfl⟩ := setB_of hn hv.1
    rw [nI_clamp (by omega)] at hv ⊢
    have hl4 : (chR U.2.2.2.1).length = U.2.2.2.1.length := List.length_map ..
    have hle := hI.st.2.2.2.1.1
    rw [hl4] at hle
    have hcnt : cnt (bt (chM U.2.2.2.1)) 32 < 31 := by
      have := cnt_chM U.2.2.2.1 32 (Nat.le_refl _)
      omega
    have htk := takes_nt (S := U.2.1) hc.1 hc.2.1 hc.2.2 s3
    have hix := idx_mem s3 h32
    have no : ¬ (idxF (nI s) U.2.2.2.1 0 = none ∧ TakesR U.2.1 U.2.2.2.1 s) → R (d + 4) 98 30 [some (.ref 3), some (.int (nI s)), some (.int (chM U.2.2.2.1))] [] h (fun r2 h' => r2 = some (.int (if pb (idxF (nI s) U.2.2.2.1 0 = none ∧ TakesR U.2.1 U.2.2.2.1 s) = true then (nI (U.2.2.2.1.length + 1), ((U.1, U.2.1, U.2.2.1, U.2.2.2.1 ++ [s], U.2.2.2.2) : US)) else (-3, U)).1) ∧ NQ h (if pb (idxF (nI s) U.2.2.2.1 0 = none ∧ TakesR U.2.1 U.2.2.2.1 s) = true then (nI (U.2.2.2.1.length + 1), ((U.1, U.2.1, U.2.2.1, U.2.2.2.1 ++ [s], U.2.2.2.2) : US)) else (-3, U)).2 K im tx T h') := by
      intro hno
      rw [if_neg (by rw [pb_false.mpr hno]; decide)]
      repeat (refine R_s kC9 rfl rfl ?_)
      exact R_ri kC9 rfl ⟨rfl, NQ.rfl' hI⟩
    repeat (refine R_s kC9 rfl rfl ?_)
    refine R_get kC9 rfl (hI.ob) rfl ?_
    refine R_cv kC9 rfl rfl rfl rfl hI.st.2.1 (by omega) (cl_SE_pickedNest (d + 2) hI.st h32) ?_
    repeat (refine R_s kC9 rfl rfl ?_)
    refine (show R (d + 4) 98 17 [some (.ref 3), some (.int (nI s)), some (.int (chM U.2.2.2.1))] [.int (ushr (chM U.2.2.2.1) (nI s) &&& nI 1)] h _ from ?_)
    rw [ushr_bt s3, chM_bt s3]
    refine ZB_ne kC9 rfl (fun he => ?_) (fun he => ?_)
    · exact no (fun z => hix.mp z.1 (of_decide_eq_true he))
    · repeat (refine R_s kC9 rfl rfl ?_)
      refine R_get kC9 rfl (hI.ob) rfl ?_
      refine R_get kC9 rfl (hI.st.2.1) rfl ?_
      refine R_cv kC9 rfl rfl rfl rfl hI.st.2.2.2.1.2.2.2.1 (by omega) (cl_RO_isFull (d + 3) hI.st.2.2.2.1) ?_
      rw [hl4]
      refine ZB_ne kC9 rfl (fun hf => ?_) (fun hf => ?_)
      · refine no (fun z => ?_)
        have := h3 (nI s) hd.1 hd.2 z.1 (by rw [nI_clamp (by omega)]; exact z.2)
        have := of_decide_eq_true hf
        omega
      · repeat (refine R_s kC9 rfl rfl ?_)
        refine R_get kC9 rfl (hI.ob) rfl ?_
        refine R_get kC9 rfl (hI.st.2.1) rfl ?_
        repeat (refine R_s kC9 rfl rfl ?_)
        refine R_cv kC9 rfl rfl rfl rfl hI.st.2.2.1.2 (by omega) (sp_FA_nestTakes (d + 1) hI.st.2.2.1 hcnt s3) ?_
        refine ZB_ne kC9 rfl (fun hg => ?_) (fun hg => ?_)
        · have yes : pb (idxF (nI s) U.2.2.2.1 0 = none ∧ TakesR U.2.1 U.2.2.2.1 s) = true := pb_true.mpr ⟨hix.mpr (of_decide_eq_false he), htk.mpr (pb_true.mp hg)⟩
          rw [if_pos yes]
          have hlt : (chR U.2.2.2.1).length < 4 := by
            have := of_decide_eq_false hf
            omega
          repeat (refine R_s kC9 rfl rfl ?_)
          refine R_get kC9 rfl (hI.ob) rfl ?_
          refine R_get kC9 rfl (hI.st.2.1) rfl ?_
          repeat (refine R_s kC9 rfl rfl ?_)
          obtain ⟨h2, ⟨x2, R2⟩, c2⟩ := cl_RO_put (d + 2) hI.st.2.2.2.1 hlt (nI s) 0
          refine R_cv kC9 rfl rfl rfl rfl hI.st.2.2.2.1.2.2.2.1 (by omega) c2 ?_
          have e9 : chR U.2.2.2.1 ++ [(nI s, (0 : Int32))] = chR (U.2.2.2.1 ++ [s]) := by rw [chR, chR, List.map_append]; rfl
          rw [e9] at R2
          rw [hl4]
          exact R_ri kC9 rfl ⟨rfl, x2.mono (by omega) (by omega), hI.set (x2.mono (by omega) (by omega)) (hI.st.pick x2 R2)⟩
        · exact no (fun z => pb_false.mp hg (htk.mp z.2))
  · rw [if_neg (fun z => by
      rw [z.1, decide_eq_false z.2] at hd
      cases hd)]
    repeat (refine R_s kC9 rfl rfl ?_)
    exact R_ri kC9 rfl ⟨rfl, NQ.rfl' hI⟩
theorem map_erase {α β : Type} (f : α → β) (l : List α) (i : Nat) : (l.eraseIdx i).map f = (l.map f).eraseIdx i := by
  apply List.ext_getElem?
  intro q
  rw [List.getElem?_map, List.getElem?_eraseIdx, List.getElem?_eraseIdx]
  split <;> rw [List.getElem?_map]
theorem nb_drop (d : Nat) (hI : NBI h U K im tx T) (v : Int32) : ∃ h', NQ h (specDrop U v).2 K im tx T h' ∧ Cl (d + 1) 99 [.ref 3, .int v] h (some (.int (specDrop U v).1)) h' := by
  have kC9 := co_NB_drop
  refine Cl_eH kC9 rfl rfl ?_
  have hl4 : (chR U.2.2.2.1).length = U.2.2.2.1.length := List.length_map ..
  have hR := hI.st.2.2.2.1
  have hR0 := hR
  obtain ⟨r1, r2, r3, r4, F, Sf, r5, r6, r7⟩ := hR0
  rw [hl4] at r1 r4
  have hfind := sp_RO_find (v := v) d r4 r5 r2 r1 (fun i x hx => (r7 i (nI x, 0) (by rw [List.getElem?_map, hx]; rfl)).1)
  repeat (refine R_s kC9 rfl rfl ?_)
  refine R_get kC9 rfl (hI.ob) rfl ?_
  refine R_get kC9 rfl (hI.st.2.1) rfl ?_
  repeat (refine R_s kC9 rfl rfl ?_)
  refine R_cv kC9 rfl rfl rfl rfl hR.2.2.2.1 (by omega) hfind ?_
  unfold specDrop
  cases hx : idxF v U.2.2.2.1 0 with
  | none =>
    rw [idxR_none hx]
    repeat (refine R_s kC9 rfl rfl ?_)
    refine Zr_ge kC9 rfl (fun z => absurd z (by decide)) (fun _ => ?_)
    repeat (refine R_s kC9 rfl rfl ?_)
    refine R_g kC9 rfl ?_
    exact R_ri kC9 rfl ⟨rfl, NQ.rfl' hI⟩
  | some i =>
    rw [idxR_some hx]
    have hi := idxF_lt _ _ _ hx
    repeat (refine R_s kC9 rfl rfl ?_)
    refine Z_ge kC9 rfl rfl (by omega) (fun _ => ?_) (fun z => by omega)
    repeat (refine R_s kC9 rfl rfl ?_)
    refine R_get kC9 rfl (hI.ob) rfl ?_
    refine R_get kC9 rfl (hI.st.2.1) rfl ?_
    repeat (refine R_s kC9 rfl rfl ?_)
    obtain ⟨h2, ⟨x2, R2⟩, c2⟩ := cl_RO_remove d hR (i := i) (by omega)
    refine R_cv kC9 rfl rfl rfl rfl hR.2.2.2.1 (by omega) c2 ?_
    rw [← map_erase] at R2
    rw [hl4]
    exact R_ri kC9 rfl ⟨rfl, x2.mono (by omega) (by omega), hI.set (x2.mono (by omega) (by omega)) (hI.st.pick x2 R2)⟩
theorem nb_feed (d : Nat) (hI : NBI h U K im tx T) (v : Int32) : ∃ h', NQ h U K im (specFeed tx v).2 T h' ∧ Cl (d + 2) 100 [.ref 3, .int v] h (some (.int (specFeed tx v).1)) h' := by
  have kC9 := co_NB_feed
  refine Cl_eH kC9 rfl rfl ?_
  unfold specFeed
  have a127 : (nI 127).toInt = 127 := by decide
  by_cases hv : 0 ≤ v.toInt ∧ v.toInt ≤ 127
  · rw [if_pos hv]
    obtain ⟨k, k1, k2, k3, rfl⟩ := rng_nI (v := v) (a := 0) (b := 127) (by omega)
    rw [nI_clamp k3]
    repeat (refine R_s kC9 rfl rfl ?_)
    refine Z_lt kC9 rfl (rfl) (by omega) (fun hc => ?_) (fun hc => ?_)
    · omega
    · repeat (refine R_s kC9 rfl rfl ?_)
      refine R_le kC9 rfl rfl rfl (by omega) (by omega) (fun _ => ?_) (fun z => by omega)
      repeat (refine R_s kC9 rfl rfl ?_)
      refine R_get kC9 rfl (hI.ob) rfl ?_
      refine R_cv kC9 rfl rfl rfl rfl hI.txt.2.1 (by omega) (sp_TE_isFull (d + 1) hI.txt) ?_
      refine ZB_eq kC9 rfl (fun hd => ?_) (fun hd => ?_)
      · rw [if_neg (of_decide_eq_false hd)]
        have hl : tx.length < 100 := by
          obtain ⟨o3, ho, F, hF, hx⟩ := hI.txt
          have := hx.1
          have := of_decide_eq_false hd
          omega
        repeat (refine R_s kC9 rfl rfl ?_)
        refine R_get kC9 rfl (hI.ob) rfl ?_
        repeat (refine R_s kC9 rfl rfl ?_)
        obtain ⟨h2, ⟨x2, T2⟩, c2⟩ := cl_TE_put d hI.txt (x := k) (by omega) hl
        refine R_cv kC9 rfl rfl rfl rfl hI.txt.2.1 (by omega) c2 ?_
        exact R_ri kC9 rfl ⟨rfl, x2.mono (by omega) (by omega), hI.text x2 T2⟩
      · rw [if_pos (of_decide_eq_true hd)]
        repeat (refine R_s kC9 rfl rfl ?_)
        refine R_g kC9 rfl ?_
        exact R_ri kC9 rfl ⟨rfl, NQ.rfl' hI⟩
  · rw [if_neg hv]
    repeat (refine R_s kC9 rfl rfl ?_)
    refine Zr_lt kC9 rfl (fun hc => ?_) (fun hc => ?_)
    · repeat (refine R_s kC9 rfl rfl ?_)
      exact R_ri kC9 rfl ⟨rfl, NQ.rfl' hI⟩
    · rw [tI_lt, tI_0] at hc
      repeat (refine R_s kC9 rfl rfl ?_)
      refine Rr_le kC9 rfl (fun he => ?_) (fun he => ?_)
      · rw [tI_le, a127] at he
        omega
      · repeat (refine R_s kC9 rfl rfl ?_)
        exact R_ri kC9 rfl ⟨rfl, NQ.rfl' hI⟩
end
