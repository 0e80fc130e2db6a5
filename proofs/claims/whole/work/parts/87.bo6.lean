/-! THE CLASS, 17: Body: flips, arrange -/
/-- corner c's list and its mask -/
noncomputable def crL (n : Nat) (S : Int32) (c : Nat) : List Nat := (cornS n S).getD c []
/-- flips: there is one each; no corner lies in another -/
def flU (n : Nat) (S : Int32) : Prop := flOK n S ∧ (∀ c j, c < (cornS n S).length → j < n - 1 → nrN n S c j ≠ c) ∧ (∀ a c, a < (cornS n S).length → c < (cornS n S).length → (∀ t ∈ crL n S a, t ∈ crL n S c) → a = c) ∧ (∀ c j o, c < (cornS n S).length → j < n - 1 → o < (cornS n S).length → o ≠ c → (∀ t ∈ crL n S c, t ≠ (crL n S c).getD j 0 → t ∈ crL n S o) → o = nrN n S c j) ∧ ∀ c j, c < (cornS n S).length → j < n - 1 → ∀ t ∈ crL n S c, t ≠ (crL n S c).getD j 0 → t ∈ crL n S (nrN n S c j)
theorem crL_get {n : Nat} {S : Int32} {c : Nat} (hc : c < (cornS n S).length) : (cornS n S)[c]? = some (crL n S c) := by
  unfold crL
  rw [List.getD_eq_getElem?_getD, List.getElem?_eq_getElem hc]
  rfl
theorem crL_ok {n : Nat} {S : Int32} (hn : n ≤ 5) (hn2 : 2 ≤ n) {c : Nat} (hc : c < (cornS n S).length) : crL n S c ∈ cornS n S ∧ (crL n S c).length = n - 1 ∧ riseL (crL n S c) ∧ lamL n (crL n S c) ∧ ∀ t ∈ crL n S c, bt S t = true := by
  have hm : crL n S c ∈ cornS n S := List.mem_of_getElem? (crL_get hc)
  obtain ⟨k1, k2, k3⟩ := corn_ok hn hn2 hm
  have ha : crL n S c ∈ allN n S := (List.mem_filter.mp (cornS_mem.mp hm)).1
  exact ⟨hm, k2, k3, ⟨k1.1, allN_lam ha, fun t ht => ⟨(k1.2.1 t ht).1, (k1.2.1 t ht).2.1⟩⟩, fun t ht => (k1.2.1 t ht).2.2⟩
theorem chM_els {y : List Nat} (hy : riseL y) : els (chM y) = y := by
  rw [els_r1, els_chM hy]
  rw [chM_bt (by omega)]
  exact decide_eq_false (fun q => by have := (hy.2 0 q).1; omega)
theorem idx_lt : ∀ (l : List Nat) (t : Nat), l.Pairwise (fun a b => a < b) → t ∈ l → l[(l.filter (fun x => decide (x < t))).length]? = some t
  | [], t, _, h => by cases h
  | x :: l, t, hp, h => by
    obtain ⟨p1, p2⟩ := List.pairwise_cons.mp hp
    by_cases e : x = t
    · subst e
      have : (x :: l).filter (fun y => decide (y < x)) = [] := by
        apply List.filter_eq_nil_iff.mpr
        intro y hy
        rcases List.mem_cons.mp hy with q | q
        · simp [q]
        · have := p1 y q
          simp; omega
      rw [this]; rfl
    · have ht : t ∈ l := by
        rcases List.mem_cons.mp h with q | q
        · exact absurd q.symm e
        · exact q
      have := p1 t ht
      rw [List.filter_cons_of_pos (by simp; exact this), List.length_cons, List.getElem?_cons_succ]
      exact idx_lt l t p2 ht
theorem cnt_split (P Q : Nat → Bool) : ∀ k, cnt (fun i => P i && Q i) k + cnt (fun i => P i && !Q i) k = cnt P k
  | 0 => rfl
  | k + 1 => by
    have ih := cnt_split P Q k
    rw [cnt_succ, cnt_succ, cnt_succ]
    cases P k <;> cases Q k <;> simp <;> omega
theorem nodup_idx {l : List Nat} {i j t : Nat} (hn : l.Nodup) (hi : l[i]? = some t) (hj : l[j]? = some t) : i = j := by
  obtain ⟨i1, i2⟩ := List.getElem?_eq_some_iff.mp hi
  obtain ⟨j1, j2⟩ := List.getElem?_eq_some_iff.mp hj
  rcases Nat.lt_trichotomy i j with q | q | q
  · exact absurd (i2.trans j2.symm) (List.pairwise_iff_getElem.mp hn i j i1 j1 q)
  · exact q
  · exact absurd (j2.trans i2.symm) (List.pairwise_iff_getElem.mp hn j i j1 i1 q)
def lvM (A B : Int32) : Int32 := A &&& (B ^^^ (-1))
theorem lvM_bt (A B : Int32) {i : Nat} (hi : i < 32) : bt (lvM A B) i = (bt A i && !bt B i) := by
  unfold lvM
  rw [b_and, m1_xor_bt _ hi]
theorem one_els {x : Int32} (h0 : x ≠ 0) (h1 : x &&& (x - nI 1) = 0) : ∃ t, els x = [t] := by
  cases he : els x with
  | nil => exact absurd (els_nil.mp he) h0
  | cons t l =>
    have := els_tail he
    rw [h1, els_nil.mpr rfl] at this
    rw [← this]
    exact ⟨t, rfl⟩
theorem els_one {x : Int32} {t : Nat} (h : els x = [t]) : x &&& (x - nI 1) = 0 := els_nil.mp (els_tail h)
theorem els_le1 {x : Int32} (h : (els x).length ≤ 1) : x &&& (x - nI 1) = 0 := by
  cases he : els x with
  | nil =>
    rw [els_nil.mp he]; decide
  | cons t l =>
    rw [he, List.length_cons] at h
    have : l = [] := List.length_eq_zero_iff.mp (by omega)
    rw [this] at he
    exact els_one he
theorem below_bt {x : Int32} {t : Nat} (h : els x = [t]) {i : Nat} (hi : i < 32) : bt (x - nI 1) i = decide (i < t) := by
  obtain ⟨t32, hb, hlow, q, hq, hq2⟩ := els_cons h
  have p1 := Nat.two_pow_pos t
  have hx : tn x = 2 ^ t := by
    apply Nat.eq_of_testBit_eq
    intro j
    rw [← tn_bt, Nat.testBit_two_pow]
    rcases Nat.lt_or_ge j 32 with c | c
    · apply bool_iff
      rw [decide_eq_true_eq]
      constructor
      · intro hj
        have : j ∈ els x := els_mem.mpr ⟨c, hj⟩
        rw [h] at this
        have : j = t := by simpa using this
        exact this.symm
      · rintro rfl; exact hb
    · rw [b_big c, decide_eq_false (by omega)]
  rw [tn_bt, tn_sub (by rw [tn_nI (by omega), hx]; omega), tn_nI (by omega), hx, Nat.testBit_two_pow_sub_one]
section
variable {h h' : AH} {o fam n : Nat} {S Lm : Int32} {b : BoS}
theorem sp_BO_putFlip (d : Nat) (hB : BX h o fam n S Lm b) {c to t : Nat} {y : List Nat} {lv : Int32} (hc : c < 120) (hy : riseL y) (hl : y.length ≤ 4) (hN : b.Nr c = chM y) (hlv : els lv = [t]) (ht : t ∈ y) : ∃ j, y[j]? = some t ∧ Cl (d + 1) 75 [.ref o, .int (nI c), .int lv, .int (nI to)] h none (upH h (o + 6) (ints 480 (upd b.Fl (4 * c + j) (nI to)))) := by
  have hj := idx_lt y t hy.1 ht
  refine ⟨_, hj, ?_⟩
  have hjl := (List.getElem?_eq_some_iff.mp hj).1
  have hcnt : cnt (bt (chM y &&& (lv - nI 1))) 32 = (y.filter (fun x => decide (x < t))).length := by
    rw [← els_len, els_and, chM_els hy]
    congr 1
    apply List.filter_congr
    intro x hx
    exact below_bt hlv (hy.2 x hx).2
  generalize (y.filter (fun x => decide (x < t))).length = j at *
  have o3 := hB.o3
  have kC9 := co_BO_putFlip
  refine Cl_of kC9 rfl rfl ?_
  repeat (refine R_s kC9 rfl rfl ?_)
  refine R_get kC9 rfl (hB.ob) rfl ?_
  repeat (refine R_s kC9 rfl rfl ?_)
  refine R_ild kC9 rfl hB.nr (k := c) rfl hc (by omega) ?_
  rw [hN]
  repeat (refine R_s kC9 rfl rfl ?_)
  refine R_cs kC9 rfl rfl rfl rfl (sp_JI_bitCount d h _) ?_
  refine (show R (d + 1) 75 12 _ [.int (nI (cnt (bt (chM y &&& (lv - nI 1))) 32)), .int (nI c * nI 4)] h _ from ?_)
  rw [hcnt, pk_mul]
  repeat (refine R_s kC9 rfl rfl ?_)
  refine (show R (d + 1) 75 15 [some (.ref o), some (.int (nI c)), some (.int lv), some (.int (nI to)), some (.int (nI (c * 4) + nI j))] [.int (nI (c * 4) + nI j)] h _ from ?_)
  rw [nI_add, show c * 4 + j = 4 * c + j by omega]
  refine Z_lt kC9 rfl (rfl) (by omega) (fun hc => ?_) (fun hc => ?_)
  · omega
  · repeat (refine R_s kC9 rfl rfl ?_)
    refine R_get kC9 rfl (hB.ob) rfl ?_
    refine R_alen kC9 rfl hB.fl (by omega) ?_
    refine R_ge kC9 rfl rfl rfl (by omega) (by omega) (fun q => by omega) (fun _ => ?_)
    repeat (refine R_s kC9 rfl rfl ?_)
    refine R_get kC9 rfl (hB.ob) rfl ?_
    repeat (refine R_s kC9 rfl rfl ?_)
    refine R_ist kC9 rfl hB.fl (by omega) (k := 4 * c + j) rfl (by omega) (by omega) ?_
    exact R_rv kC9 rfl ⟨rfl, rfl⟩
def FlI (n : Nat) (S : Int32) (F : NF) (a c : Nat) : Prop := ∀ u j, u < (cornS n S).length → j < n - 1 → (max u (nrN n S u j) < a ∨ (max u (nrN n S u j) = a ∧ min u (nrN n S u j) < c)) → F (4 * u + j) = nI (nrN n S u j)
theorem crL_mask {c : Nat} (hn : n ≤ 5) (hn2 : 2 ≤ n) (hc : c < (cornS n S).length) : cnt (bt (chM (crL n S c))) 32 = n - 1 ∧ ∀ i, i < 32 → (bt (chM (crL n S c)) i = true ↔ i ∈ crL n S c) := by
  obtain ⟨k1, k2, k3, k4, k5⟩ := crL_ok hn hn2 hc
  refine ⟨?_, fun i hi => by rw [chM_bt hi, decide_eq_true_eq]⟩
  rw [← els_len, chM_els k3, k2]
theorem lv_len {a c : Nat} (hn : n ≤ 5) (hn2 : 2 ≤ n) (ha : a < (cornS n S).length) (hc : c < (cornS n S).length) : (els (lvM (chM (crL n S a)) (chM (crL n S c)))).length = (els (lvM (chM (crL n S c)) (chM (crL n S a)))).length := by
  have key : ∀ A B : Int32, cnt (bt A) 32 = cnt (bt B) 32 → (els (lvM A B)).length = (els (lvM B A)).length := by
    intro A B hAB
    rw [els_len, els_len]
    have e1 := cnt_split (bt A) (bt B) 32
    have e2 := cnt_split (bt B) (bt A) 32
    have e3 : cnt (bt (lvM A B)) 32 = cnt (fun i => bt A i && !bt B i) 32 := cnt_congr 32 (fun i hi => lvM_bt A B hi)
    have e4 : cnt (bt (lvM B A)) 32 = cnt (fun i => bt B i && !bt A i) 32 := cnt_congr 32 (fun i hi => lvM_bt B A hi)
    have e5 : cnt (fun i => bt A i && bt B i) 32 = cnt (fun i => bt B i && bt A i) 32 := cnt_congr 32 (fun i hi => Bool.and_comm _ _)
    omega
  exact key _ _ (by rw [(crL_mask hn hn2 ha).1, (crL_mask hn hn2 hc).1])
/-- a write for a pair that is a flip -/
theorem flip_put (hn : n ≤ 5) (hn2 : 2 ≤ n) (hU : flU n S) {a c t j : Nat} (ha : a < (cornS n S).length) (hc : c < (cornS n S).length) (hac : a ≠ c) (hlv : els (lvM (chM (crL n S a)) (chM (crL n S c))) = [t]) (hj : (crL n S a)[j]? = some t) : j < n - 1 ∧ c = nrN n S a j := by
  obtain ⟨k1, k2, k3, k4, k5⟩ := crL_ok hn hn2 ha
  have hjl := (List.getElem?_eq_some_iff.mp hj).1
  refine ⟨by omega, hU.2.2.2.1 a j c ha (by omega) hc (Ne.symm hac) (fun u hu hne => ?_)⟩
  have hu32 := (k3.2 u hu).2
  rw [gD hj] at hne
  have h1 := (crL_mask hn hn2 ha).2 u hu32
  have h2 := (crL_mask hn hn2 hc).2 u hu32
  cases hb : bt (chM (crL n S c)) u with
  | true => exact h2.mp hb
  | false =>
    have : u ∈ els (lvM (chM (crL n S a)) (chM (crL n S c))) := els_mem.mpr ⟨hu32, by rw [lvM_bt _ _ hu32, h1.mpr hu, hb]; rfl⟩
    rw [hlv] at this
    have : u = t := by simpa using this
    exact absurd this hne
theorem lv_pair (hn : n ≤ 5) (hn2 : 2 ≤ n) (hU : flU n S) {u j : Nat} (hu : u < (cornS n S).length) (hj : j < n - 1) : ∃ t, els (lvM (chM (crL n S u)) (chM (crL n S (nrN n S u j)))) = [t] := by
  have hN := (hU.1.at hu hj).1
  obtain ⟨k1, k2, k3, k4, k5⟩ := crL_ok hn hn2 hu
  have hsub : ∀ t ∈ els (lvM (chM (crL n S u)) (chM (crL n S (nrN n S u j)))), t = (crL n S u).getD j 0 := by
    intro t ht
    obtain ⟨t1, t2⟩ := els_mem.mp ht
    rw [lvM_bt _ _ t1, Bool.and_eq_true, Bool.not_eq_true'] at t2
    have h1 := (crL_mask hn hn2 hu).2 t t1
    have h2 := (crL_mask hn hn2 hN).2 t t1
    apply Classical.byContradiction
    intro hne
    have := hU.2.2.2.2 u j hu hj t (h1.mp t2.1) hne
    rw [h2.mpr this] at t2
    cases t2.2
  cases he : els (lvM (chM (crL n S u)) (chM (crL n S (nrN n S u j)))) with
  | nil =>
    exfalso
    apply hU.2.1 u j hu hj
    refine (hU.2.2.1 u _ hu hN (fun t ht => ?_)).symm
    have t32 := (k3.2 t ht).2
    have h1 := (crL_mask hn hn2 hu).2 t t32
    have h2 := (crL_mask hn hn2 hN).2 t t32
    cases hb : bt (chM (crL n S (nrN n S u j))) t with
    | true => exact h2.mp hb
    | false =>
      have : t ∈ els (lvM (chM (crL n S u)) (chM (crL n S (nrN n S u j)))) := els_mem.mpr ⟨t32, by rw [lvM_bt _ _ t32, h1.mpr ht, hb]; rfl⟩
      rw [he] at this; cases this
  | cons t l =>
    have hnd := els_nodup (lvM (chM (crL n S u)) (chM (crL n S (nrN n S u j))))
    rw [he] at hsub hnd
    cases l with
    | nil => exact ⟨t, rfl⟩
    | cons t2 l2 =>
      have e1 := hsub t List.mem_cons_self
      have e2 := hsub t2 (List.mem_cons_of_mem _ List.mem_cons_self)
      have := (List.nodup_cons.mp hnd).1
      rw [e1, e2] at this
      exact absurd List.mem_cons_self this
theorem lc_flipB (d : Nat) (Q : Option Value → AH → Prop) (hn : n ≤ 5) (hn2 : 2 ≤ n) (hU : flU n S) (hN120 : (cornS n S).length ≤ 120) {a : Nat} (ha : a < (cornS n S).length) (hNr : ∀ c, c < (cornS n S).length → b.Nr c = chM (crL n S c)) (kk : ∀ (h2 : AH) (F : NF) (w : Option Value), (w = none ∨ ∃ x : Int32, w = some (.int x)) → frI o (o + 13) h h2 → BX h2 o fam n S Lm (b.sFl F) → FlI n S F (a + 1) 0 → R (d + 2) 74 51 [some (.ref o), some (.int (nI a)), some (.int (nI a)), w] [] h2 Q) : ∀ (m c : Nat) (h2 : AH) (F : NF) (w : Option Value), c + m = a → (w = none ∨ ∃ x : Int32, w = some (.int x)) → frI o (o + 13) h h2 → BX h2 o fam n S Lm (b.sFl F) → FlI n S F a c → R (d + 2) 74 8 [some (.ref o), some (.int (nI a)), some (.int (nI c)), w] [] h2 Q := by
  have kC9 := co_BO_findFlips
  intro m
  induction m with
  | zero =>
    intro c h2 F w hc hw hf hB hI
    have : c = a := by omega
    subst this
    repeat (refine R_s kC9 rfl rfl ?_)
    refine R_ge kC9 rfl (rfl) (rfl) (by omega) (by omega) (fun hc => ?_) (fun hc => ?_)
    · refine kk h2 F w hw hf hB (fun u j hu hj hp => hI u j hu hj ?_)
      have := hU.2.1 u j hu hj
      omega
    · omega
  | succ m ih =>
    intro c h2 F w hc hw hf hB hI
    have o3 := hB.o3
    have hcN : c < (cornS n S).length := by omega
    have hac : a ≠ c := by omega
    obtain ⟨ka1, ka2, ka3, ka4, ka5⟩ := crL_ok hn hn2 ha
    obtain ⟨kc1, kc2, kc3, kc4, kc5⟩ := crL_ok hn hn2 hcN
    have next : ∀ (h3 : AH) (F3 : NF), frI o (o + 13) h h3 → BX h3 o fam n S Lm (b.sFl F3) → FlI n S F3 a (c + 1) → R (d + 2) 74 49 [some (.ref o), some (.int (nI a)), some (.int (nI c)), some (.int (lvM (chM (crL n S a)) (chM (crL n S c))))] [] h3 Q := by
      intro h3 F3 q1 q2 q3
      repeat (refine R_s kC9 rfl rfl ?_)
      refine R_g kC9 rfl ?_
      refine (show R (d + 2) 74 8 [some (.ref o), some (.int (nI a)), some (.int (nI c + nI 1)), some (.int (lvM (chM (crL n S a)) (chM (crL n S c))))] [] h3 Q from ?_)
      rw [nI_add]
      exact ih (c + 1) h3 F3 _ (by omega) (Or.inr ⟨_, rfl⟩) q1 q2 q3
    have body : R (d + 2) 74 23 [some (.ref o), some (.int (nI a)), some (.int (nI c)), some (.int (lvM (chM (crL n S a)) (chM (crL n S c))))] [] h2 Q := by
      have hlen := lv_len hn hn2 ha hcN
      repeat (refine R_s kC9 rfl rfl ?_)
      refine Zr_ne kC9 rfl (fun hd => ?_) (fun hd => ?_)
      · refine next h2 F hf hB (fun u j hu hj hp => ?_)
        by_cases e : max u (nrN n S u j) = a ∧ min u (nrN n S u j) = c
        · exfalso
          apply hd
          refine (show lvM (chM (crL n S a)) (chM (crL n S c)) &&& (lvM (chM (crL n S a)) (chM (crL n S c)) - nI 1) = 0 from ?_)
          obtain ⟨t, ht⟩ := lv_pair hn hn2 hU hu hj
          rcases Nat.lt_or_ge u (nrN n S u j) with q | q
          · have e1 : nrN n S u j = a := by omega
            have e2 : u = c := by omega
            rw [e1, e2] at ht
            exact els_le1 (by rw [hlen, ht]; exact Nat.le_refl 1)
          · have e1 : u = a := by omega
            have e2 : nrN n S u j = c := by omega
            rw [e2, e1] at ht
            exact els_le1 (by rw [ht]; exact Nat.le_refl 1)
        · exact hI u j hu hj (by omega)
      · have hne0 : lvM (chM (crL n S a)) (chM (crL n S c)) ≠ 0 := by
          intro e0
          apply hac
          refine hU.2.2.1 a c ha hcN (fun t ht => ?_)
          have t32 := (ka3.2 t ht).2
          have h1 := (crL_mask hn hn2 ha).2 t t32
          have h2 := (crL_mask hn hn2 hcN).2 t t32
          have h3 := lvM_bt (chM (crL n S a)) (chM (crL n S c)) t32
          rw [e0, b_0, h1.mpr ht] at h3
          apply h2.mp
          cases hb : bt (chM (crL n S c)) t with
          | true => rfl
          | false => rw [hb] at h3; cases h3
        obtain ⟨t, ht⟩ := one_els hne0 hd
        have htA : t ∈ crL n S a := by
          obtain ⟨t1, t2⟩ := els_mem.mp (show t ∈ els (lvM (chM (crL n S a)) (chM (crL n S c))) by rw [ht]; exact List.mem_cons_self)
          rw [lvM_bt _ _ t1, Bool.and_eq_true] at t2
          exact ((crL_mask hn hn2 ha).2 t t1).mp t2.1
        obtain ⟨t2, ht2⟩ : ∃ t2, els (lvM (chM (crL n S c)) (chM (crL n S a))) = [t2] := by
          rw [ht] at hlen
          cases he : els (lvM (chM (crL n S c)) (chM (crL n S a))) with
          | nil => rw [he] at hlen; cases hlen
          | cons x l =>
            rw [he, List.length_cons, List.length_cons] at hlen
            have : l = [] := List.length_eq_zero_iff.mp (by rw [List.length_nil] at hlen; omega)
            rw [this]
            exact ⟨x, rfl⟩
        have htC : t2 ∈ crL n S c := by
          obtain ⟨t1, t3⟩ := els_mem.mp (show t2 ∈ els (lvM (chM (crL n S c)) (chM (crL n S a))) by rw [ht2]; exact List.mem_cons_self)
          rw [lvM_bt _ _ t1, Bool.and_eq_true] at t3
          exact ((crL_mask hn hn2 hcN).2 t2 t1).mp t3.1
        obtain ⟨j1, hj1, cl1⟩ := sp_BO_putFlip (c := a) (to := c) d hB (by omega) ka3 (by omega) (hNr a ha) ht htA
        have hB1 : BX _ o fam n S Lm (b.sFl (upd F (4 * a + j1) (nI c))) := hB.ufl (upd F (4 * a + j1) (nI c))
        obtain ⟨j2, hj2, cl2⟩ := sp_BO_putFlip (c := c) (to := a) d hB1 (by omega) kc3 (by omega) (hNr c hcN) ht2 htC
        have hB2 : BX _ o fam n S Lm (b.sFl (upd (upd F (4 * a + j1) (nI c)) (4 * c + j2) (nI a))) := hB1.ufl (upd (upd F (4 * a + j1) (nI c)) (4 * c + j2) (nI a))
        obtain ⟨f1, f2⟩ := flip_put hn hn2 hU ha hcN hac ht hj1
        obtain ⟨g1, g2⟩ := flip_put hn hn2 hU hcN ha (Ne.symm hac) ht2 hj2
        repeat (refine R_s kC9 rfl rfl ?_)
        refine R_cv kC9 rfl rfl rfl rfl hB.ob o3 cl1 ?_
        repeat (refine R_s kC9 rfl rfl ?_)
        refine R_get kC9 rfl hB1.ob rfl ?_
        repeat (refine R_s kC9 rfl rfl ?_)
        refine R_ild kC9 rfl hB1.nr (k := c) rfl (by omega) (by omega) ?_
        repeat (refine R_s kC9 rfl rfl ?_)
        refine R_get kC9 rfl hB1.ob rfl ?_
        repeat (refine R_s kC9 rfl rfl ?_)
        refine R_ild kC9 rfl hB1.nr (k := a) rfl (by omega) (by omega) ?_
        repeat (refine R_s kC9 rfl rfl ?_)
        refine (show R (d + 2) 74 48 [some (.ref o), some (.int (nI a)), some (.int (nI c)), some (.int (lvM (chM (crL n S a)) (chM (crL n S c))))] [.int (nI a), .int (b.Nr c &&& (b.Nr a ^^^ (-1))), .int (nI c), .ref o] _ Q from ?_)
        rw [hNr c hcN, hNr a ha]
        refine R_cv kC9 rfl rfl rfl rfl hB1.ob o3 cl2 ?_
        refine next _ _ ((hf.up _ (by omega) (by omega)).up _ (by omega) (by omega)) hB2 (fun u j hu hj hp => ?_)
        by_cases e1 : 4 * u + j = 4 * c + j2
        · have eu : u = c := by omega
          have ej : j = j2 := by omega
          subst eu; subst ej
          rw [pk_us, ← g2]
        · rw [pk_un e1]
          by_cases e2 : 4 * u + j = 4 * a + j1
          · have eu : u = a := by omega
            have ej : j = j1 := by omega
            subst eu; subst ej
            rw [pk_us, ← f2]
          · rw [pk_un e2]
            refine hI u j hu hj ?_
            by_cases e3 : max u (nrN n S u j) = a ∧ min u (nrN n S u j) = c
            · exfalso
              have hNu := (hU.1.at hu hj).1
              rcases Nat.lt_or_ge u (nrN n S u j) with q | q
              · have z1 : nrN n S u j = a := by omega
                have z2 : u = c := by omega
                subst z2
                -- slot of u with flip a is j2
                apply e1
                have hx : (crL n S u).getD j 0 = t2 := by
                  apply Classical.byContradiction
                  intro hne
                  have h9 := hU.2.2.2.2 u j hu hj t2 htC (fun z => hne z.symm)
                  rw [z1] at h9
                  obtain ⟨t1, t3⟩ := els_mem.mp (show t2 ∈ els (lvM (chM (crL n S u)) (chM (crL n S a))) by rw [ht2]; exact List.mem_cons_self)
                  rw [lvM_bt _ _ t1, ((crL_mask hn hn2 ha).2 t2 t1).mpr h9] at t3
                  simp at t3
                have hjj : (crL n S u)[j]? = some t2 := by
                  rw [List.getD_eq_getElem?_getD, List.getElem?_eq_getElem (by omega)] at hx
                  rw [List.getElem?_eq_getElem (by omega)]
                  exact congrArg some hx
                have := nodup_idx (kc4.1.imp (fun h => Nat.ne_of_lt h)) hjj hj2
                omega
              · have z1 : nrN n S u j = c := by omega
                have z2 : u = a := by omega
                subst z2
                apply e2
                have hx : (crL n S u).getD j 0 = t := by
                  apply Classical.byContradiction
                  intro hne
                  have h9 := hU.2.2.2.2 u j hu hj t htA (fun z => hne z.symm)
                  rw [z1] at h9
                  obtain ⟨t1, t3⟩ := els_mem.mp (show t ∈ els (lvM (chM (crL n S u)) (chM (crL n S c))) by rw [ht]; exact List.mem_cons_self)
                  rw [lvM_bt _ _ t1, ((crL_mask hn hn2 hcN).2 t t1).mpr h9] at t3
                  simp at t3
                have hjj : (crL n S u)[j]? = some t := by
                  rw [List.getD_eq_getElem?_getD, List.getElem?_eq_getElem (by omega)] at hx
                  rw [List.getElem?_eq_getElem (by omega)]
                  exact congrArg some hx
                have := nodup_idx (ka4.1.imp (fun h => Nat.ne_of_lt h)) hjj hj1
                omega
            · omega
    repeat (refine R_s kC9 rfl rfl ?_)
    refine R_ge kC9 rfl (rfl) (rfl) (by omega) (by omega) (fun hc => ?_) (fun hc => ?_)
    · omega
    · repeat (refine R_s kC9 rfl rfl ?_)
      refine R_get kC9 rfl (hB.ob) rfl ?_
      repeat (refine R_s kC9 rfl rfl ?_)
      refine R_ild kC9 rfl hB.nr (k := a) rfl (by omega) (by omega) ?_
      repeat (refine R_s kC9 rfl rfl ?_)
      refine R_get kC9 rfl (hB.ob) rfl ?_
      repeat (refine R_s kC9 rfl rfl ?_)
      refine R_ild kC9 rfl hB.nr (k := c) rfl (by omega) (by omega) ?_
      iterate 2 (refine R_s kC9 rfl rfl ?_)
      refine (show R (d + 2) 74 21 [some (.ref o), some (.int (nI a)), some (.int (nI c)), w] [.int (b.Nr c ^^^ (-1)), .int (b.Nr a)] h2 Q from ?_)
      rw [hNr c hcN, hNr a ha]
      rcases hw with rfl | ⟨x, rfl⟩
      · iterate 2 (refine R_s kC9 rfl rfl ?_)
        exact body
      · iterate 2 (refine R_s kC9 rfl rfl ?_)
        exact body
end
