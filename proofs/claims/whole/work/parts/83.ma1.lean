/-! MATHEMATICS, 1: the class finds the nests that the reference finds -/
def natM (P : Nat → Bool) : Nat → Nat
  | 0 => 0
  | k + 1 => 2 ^ k * (P k).toNat + natM P k
theorem natM_succ (P : Nat → Bool) (k : Nat) : natM P (k + 1) = 2 ^ k * (P k).toNat + natM P k := rfl
theorem natM_lt (P : Nat → Bool) : ∀ k, natM P k < 2 ^ k
  | 0 => Nat.one_pos
  | k + 1 => by
    have ih := natM_lt P k
    rw [natM_succ, Nat.pow_succ]
    cases P k
    · show 2 ^ k * 0 + _ < _; omega
    · show 2 ^ k * 1 + _ < _; omega
theorem natM_tb (P : Nat → Bool) : ∀ k i, (natM P k).testBit i = (decide (i < k) && P i)
  | 0, i => by show (0 : Nat).testBit i = _; rw [Nat.zero_testBit]; simp
  | k + 1, i => by
    rw [natM_succ, Nat.testBit_two_pow_mul_add _ (natM_lt P k), natM_tb P k i]
    by_cases c : i < k
    · rw [if_pos c, decide_eq_true c, decide_eq_true (by omega)]
    · rw [if_neg c]
      by_cases e : i = k
      · subst e
        rw [Nat.sub_self, decide_eq_true (by omega)]
        cases P i <;> rfl
      · rw [decide_eq_false (show ¬ i < k + 1 by omega)]
        have : i - k ≠ 0 := by omega
        cases P k
        · show Nat.testBit 0 _ = _; rw [Nat.zero_testBit]; rfl
        · show Nat.testBit (2 ^ 0) _ = _; rw [Nat.testBit_two_pow, decide_eq_false (fun q => this q.symm)]; rfl
theorem bool_iff {a b : Bool} (h : a = true ↔ b = true) : a = b := by
  cases a <;> cases b <;> simp_all
theorem dis_iff {a b : Nat} : a &&& b = 0 ↔ ∀ q, a.testBit q = true → b.testBit q = true → False := by
  constructor
  · intro h q h1 h2
    have : (a &&& b).testBit q = true := by rw [Nat.testBit_and, h1, h2]; rfl
    rw [h, Nat.zero_testBit] at this
    cases this
  · intro h
    apply Nat.eq_of_testBit_eq
    intro q
    rw [Nat.testBit_and, Nat.zero_testBit]
    cases h1 : a.testBit q <;> cases h2 : b.testBit q <;> simp
    exact h q h1 h2
theorem sub_iff {a b : Nat} : a &&& b = a ↔ ∀ q, a.testBit q = true → b.testBit q = true := by
  constructor
  · intro h q h1
    rw [← h, Nat.testBit_and] at h1
    cases h2 : b.testBit q <;> simp_all
  · intro h
    apply Nat.eq_of_testBit_eq
    intro q
    rw [Nat.testBit_and]
    cases h1 : a.testBit q
    · rfl
    · rw [h q h1]; rfl
theorem or_iff {a b : Nat} : a ||| b = b ↔ a &&& b = a := by
  rw [sub_iff]
  constructor
  · intro h q h1
    rw [← h, Nat.testBit_or, h1]; rfl
  · intro h
    apply Nat.eq_of_testBit_eq
    intro q
    rw [Nat.testBit_or]
    cases h1 : a.testBit q
    · rfl
    · rw [h q h1]; rfl
theorem sub_le {a b : Nat} (h : a &&& b = a) : a ≤ b := and_le_of h
theorem unN_tb (ns : List Nat) (sm s : Nat) : ∀ k q, (unN ns sm s k).testBit q = true ↔ s.testBit q = true ∨ ∃ i, i < k ∧ sm.testBit i = true ∧ (ns.getD i 0).testBit q = true
  | 0, q => by
    show s.testBit q = true ↔ _
    constructor
    · exact Or.inl
    · rintro (h | ⟨i, hi, _⟩)
      · exact h
      · omega
  | k + 1, q => by
    rw [unN_succ]
    have ih := unN_tb ns sm s k q
    by_cases c : sm.testBit k = true
    · rw [if_pos c, Nat.testBit_or, Bool.or_eq_true, ih]
      constructor
      · rintro ((h | ⟨i, hi, h1, h2⟩) | h)
        · exact Or.inl h
        · exact Or.inr ⟨i, by omega, h1, h2⟩
        · exact Or.inr ⟨k, by omega, c, h⟩
      · rintro (h | ⟨i, hi, h1, h2⟩)
        · exact Or.inl (Or.inl h)
        · by_cases e : i = k
          · subst e; exact Or.inr h2
          · exact Or.inl (Or.inr ⟨i, by omega, h1, h2⟩)
    · rw [if_neg c, ih]
      constructor
      · rintro (h | ⟨i, hi, h1, h2⟩)
        · exact Or.inl h
        · exact Or.inr ⟨i, by omega, h1, h2⟩
      · rintro (h | ⟨i, hi, h1, h2⟩)
        · exact Or.inl h
        · by_cases e : i = k
          · subst e; exact absurd h1 c
          · exact Or.inr ⟨i, by omega, h1, h2⟩
theorem unL_tb : ∀ (l : List Nat) (s q : Nat), (unL l s).testBit q = true ↔ s.testBit q = true ∨ ∃ t ∈ l, t.testBit q = true
  | [], s, q => by
    show s.testBit q = true ↔ _
    simp
  | t :: l, s, q => by
    rw [unL_cons, unL_tb l, Nat.testBit_or, Bool.or_eq_true]
    constructor
    · rintro ((h | h) | ⟨u, hu, h⟩)
      · exact Or.inl h
      · exact Or.inr ⟨t, List.mem_cons_self, h⟩
      · exact Or.inr ⟨u, List.mem_cons_of_mem _ hu, h⟩
    · rintro (h | ⟨u, hu, h⟩)
      · exact Or.inl (Or.inl h)
      · rcases List.mem_cons.mp hu with e | e
        · subst e; exact Or.inl (Or.inr h)
        · exact Or.inr ⟨u, e, h⟩
theorem gD {ns : List Nat} {i t : Nat} (h : ns[i]? = some t) : ns.getD i 0 = t := by rw [List.getD_eq_getElem?_getD, h]; rfl
/-- among finitely many numbers with a property a greatest -/
theorem greatest (P : Nat → Prop) (k : Nat) : ∀ t, t < k → P t → ∃ m, m < k ∧ P m ∧ ∀ u, u < k → P u → u ≤ m := by
  induction k with
  | zero => intro t ht; omega
  | succ k ih =>
    intro t ht hp
    by_cases c : P k
    · exact ⟨k, by omega, c, fun u hu _ => by omega⟩
    · have htk : t < k := by
        rcases Nat.lt_or_ge t k with q | q
        · exact q
        · have : t = k := by omega
          subst this; exact absurd hp c
      obtain ⟨m, m1, m2, m3⟩ := ih t htk hp
      refine ⟨m, by omega, m2, fun u hu hpu => ?_⟩
      rcases Nat.lt_or_ge u k with q | q
      · exact m3 u q hpu
      · have : u = k := by omega
        subst this; exact absurd hpu c
theorem chM_bt {ns : List Nat} {t : Nat} (ht : t < 32) : bt (chM ns) t = decide (t ∈ ns) := maskOf_bt _ ht
/-- sets that come to a nest, as the class and as the reference test it -/
theorem takes_iff {S : Int32} {ns : List Nat} {s : Nat} (hlam : ns.Pairwise lam) (hinc : ns.Pairwise (fun a b => a < b)) (hns : ∀ t ∈ ns, 1 ≤ t ∧ t < s) (hs : s < 32) : TakesR S ns s ↔ (∀ u ∈ ns, pairB S u s = true) ∧ (ns.length < 2 ∨ ntP S (chM ns) s) := by
  have hne : ∀ t ∈ ns, t ≠ 0 := fun t ht => by have := (hns t ht).1; omega
  have hidx : ∀ {t : Nat}, t ∈ ns → ∃ i, i < ns.length ∧ ns[i]? = some t := by
    intro t ht
    obtain ⟨i, hi, e⟩ := List.mem_iff_getElem.mp ht
    exact ⟨i, hi, by rw [List.getElem?_eq_getElem hi, e]⟩
  have hmem : ∀ {i t : Nat}, ns[i]? = some t → t ∈ ns := fun h => List.mem_of_getElem? h
  have hlt : ∀ {i j t u : Nat}, ns[i]? = some t → ns[j]? = some u → i < j → lam t u ∧ t < u := by
    intro i j t u h1 h2 hij
    have j1 := (List.getElem?_eq_some_iff.mp h2).1
    have i1 := (List.getElem?_eq_some_iff.mp h1).1
    have p1 := List.pairwise_iff_getElem.mp hlam i j i1 j1 hij
    have p2 := List.pairwise_iff_getElem.mp hinc i j i1 j1 hij
    rw [(List.getElem?_eq_some_iff.mp h1).2, (List.getElem?_eq_some_iff.mp h2).2] at p1 p2
    exact ⟨p1, p2⟩
  constructor
  · rintro ⟨hl, hu⟩
    refine ⟨fun u hu1 => ?_, Or.inr ⟨fun t ht => ?_, ?_⟩⟩
    · unfold pairB
      obtain ⟨i, hi, hiu⟩ := hidx hu1
      by_cases c : u &&& s = 0
      · rw [if_pos c]
        have key := hu (natM (fun j => decide (j = i)) ns.length) ?_ (natM_lt _ _) ?_
        · have e : unN ns (natM (fun j => decide (j = i)) ns.length) s ns.length = u ||| s := by
            apply Nat.eq_of_testBit_eq
            intro q
            have h1 := unN_tb ns (natM (fun j => decide (j = i)) ns.length) s ns.length q
            have h2 : ((u ||| s).testBit q = true ↔ s.testBit q = true ∨ ∃ j, j < ns.length ∧ (natM (fun j => decide (j = i)) ns.length).testBit j = true ∧ (ns.getD j 0).testBit q = true) := by
              rw [Nat.testBit_or, Bool.or_eq_true]
              constructor
              · rintro (h | h)
                · exact Or.inr ⟨i, hi, by rw [natM_tb]; simp [hi], by rw [gD hiu]; exact h⟩
                · exact Or.inl h
              · rintro (h | ⟨j, hj, h3, h4⟩)
                · exact Or.inr h
                · rw [natM_tb] at h3
                  simp only [Bool.and_eq_true, decide_eq_true_eq] at h3
                  rw [h3.2, gD hiu] at h4
                  exact Or.inl h4
            exact bool_iff (h1.trans h2.symm)
          rw [e] at key
          rw [key]; rfl
        · apply Nat.one_le_iff_ne_zero.mpr
          intro e0
          have : (natM (fun j => decide (j = i)) ns.length).testBit i = true := by rw [natM_tb]; simp [hi]
          rw [e0, Nat.zero_testBit] at this
          cases this
        · intro j hj h3
          rw [natM_tb] at h3
          simp only [Bool.and_eq_true, decide_eq_true_eq] at h3
          rw [dis_iff]
          intro q h4 h5
          rw [unN_tb] at h4
          rcases h4 with h4 | ⟨j2, hj2, h6, h7⟩
          · rw [h3.2, gD hiu] at h5
            exact (dis_iff.mp c) q h5 h4
          · rw [natM_tb] at h6
            simp only [Bool.and_eq_true, decide_eq_true_eq] at h6
            omega
      · rw [if_neg c]
        rcases hl u hu1 with h | h | h
        · exact absurd h c
        · exact decide_eq_true (or_iff.mpr h)
        · have : s ≤ u := sub_le (by rw [Nat.and_comm]; exact h)
          have := (hns u hu1).2
          omega
    · have ht32 := els32 _ t ht
      have htn : t ∈ ns := by
        have := (els_mem.mp ht).2
        rw [chM_bt ht32] at this
        exact of_decide_eq_true this
      rcases hl t htn with h | h | h
      · exact Or.inl (by rw [Nat.and_comm]; exact h)
      · exact Or.inr (Or.inl (by rw [Nat.or_comm]; exact or_iff.mpr h))
      · exact Or.inr (Or.inr (or_iff.mpr (by rw [Nat.and_comm]; exact h)))
    · rintro ⟨y, hy0, hyA, hyS⟩
      -- what y has
      have hy : ∀ t, t < 32 → bt y t = true → t ∈ ns ∧ s &&& t = 0 := by
        intro t ht hb
        have : bt (y &&& apM (chM ns) s) t = true := by rw [hyA]; exact hb
        unfold apM at this
        rw [b_and, maskOf_bt _ ht, chM_bt ht] at this
        simp only [Bool.and_eq_true, decide_eq_true_eq] at this
        exact this.2
      let mx : Nat → Prop := fun t => bt y t = true ∧ t < 32 ∧ ∀ u, u < 32 → bt y u = true → t &&& u = t → u = t
      let sel : Nat → Bool := fun i => pb (mx (ns.getD i 0))
      have hsel : ∀ {i t : Nat}, ns[i]? = some t → (sel i = true ↔ mx t) := by
        intro i t h
        show pb _ = true ↔ _
        rw [gD h]; exact pb_true
      have hex : ∀ t, t < 32 → bt y t = true → ∃ m, mx m ∧ t &&& m = t := by
        intro t ht hb
        obtain ⟨m, m1, ⟨m2, m3⟩, m4⟩ := greatest (fun u => bt y u = true ∧ t &&& u = t) 32 t ht ⟨hb, Nat.and_self t⟩
        refine ⟨m, ⟨m2, m1, fun u hu hbu hmu => ?_⟩, m3⟩
        have h1 := m4 u hu ⟨hbu, sub_iff.mpr (fun q hq => (sub_iff.mp hmu) q ((sub_iff.mp m3) q hq))⟩
        have h2 := sub_le hmu
        omega
      obtain ⟨t0, l0, ht0⟩ : ∃ t l, els y = t :: l := by
        cases he : els y with
        | nil => exact absurd (els_nil.mp he) hy0
        | cons t l => exact ⟨t, l, rfl⟩
      have ht0m := els_mem.mp (show t0 ∈ els y by rw [ht0]; exact List.mem_cons_self)
      obtain ⟨m0, hm0, _⟩ := hex t0 ht0m.1 ht0m.2
      have hm0n := (hy m0 hm0.2.1 hm0.1).1
      have key := hu (natM sel ns.length) ?_ (natM_lt _ _) ?_
      · have e : unN ns (natM sel ns.length) s ns.length = unL (els y) s := by
          apply Nat.eq_of_testBit_eq
          intro q
          have h1 := unN_tb ns (natM sel ns.length) s ns.length q
          have h2 := unL_tb (els y) s q
          have h3 : (∃ i, i < ns.length ∧ (natM sel ns.length).testBit i = true ∧ (ns.getD i 0).testBit q = true) ↔ ∃ t ∈ els y, t.testBit q = true := by
            constructor
            · rintro ⟨i, hi, h4, h5⟩
              have hi2 : ns[i]? = some (ns[i]) := List.getElem?_eq_getElem hi
              rw [natM_tb, decide_eq_true hi, Bool.true_and, hsel hi2] at h4
              rw [gD hi2] at h5
              exact ⟨ns[i], els_mem.mpr ⟨h4.2.1, h4.1⟩, h5⟩
            · rintro ⟨t, ht, h5⟩
              obtain ⟨t1, t2⟩ := els_mem.mp ht
              obtain ⟨m, m1, m2⟩ := hex t t1 t2
              obtain ⟨i, hi, him⟩ := hidx (hy m m1.2.1 m1.1).1
              exact ⟨i, hi, by rw [natM_tb, decide_eq_true hi, Bool.true_and, hsel him]; exact m1, by rw [gD him]; exact (sub_iff.mp m2) q h5⟩
          rw [h3] at h1
          exact bool_iff (h1.trans h2.symm)
        rw [e, hyS] at key
        cases key
      · obtain ⟨i, hi, him⟩ := hidx hm0n
        apply Nat.one_le_iff_ne_zero.mpr
        intro e0
        have : (natM sel ns.length).testBit i = true := by rw [natM_tb, decide_eq_true hi, Bool.true_and, hsel him]; exact hm0
        rw [e0, Nat.zero_testBit] at this
        cases this
      · intro j hj h3
        have hj2 : ns[j]? = some (ns[j]) := List.getElem?_eq_getElem hj
        rw [natM_tb, decide_eq_true hj, Bool.true_and, hsel hj2] at h3
        rw [gD hj2, dis_iff]
        intro q h4 h5
        rw [unN_tb] at h4
        rcases h4 with h4 | ⟨i, hi, h6, h7⟩
        · exact (dis_iff.mp (hy _ h3.2.1 h3.1).2) q h4 h5
        · have hi1 : i < ns.length := by omega
          have hi2 : ns[i]? = some (ns[i]) := List.getElem?_eq_getElem hi1
          rw [natM_tb, decide_eq_true hi1, Bool.true_and, hsel hi2] at h6
          rw [gD hi2] at h7
          obtain ⟨a1, a2⟩ := hlt hi2 hj2 hi
          rcases a1 with a1 | a1 | a1
          · exact (dis_iff.mp a1) q h7 h5
          · have := h6.2.2 _ h3.2.1 h3.1 a1
            omega
          · have := h3.2.2 _ h6.2.1 h6.1 (by rw [Nat.and_comm]; exact a1)
            omega
  · rintro ⟨hp, hq⟩
    have hl : ∀ t ∈ ns, lam t s := by
      intro t ht
      have := hp t ht
      unfold pairB at this
      by_cases c : t &&& s = 0
      · exact Or.inl c
      · rw [if_neg c] at this
        exact Or.inr (Or.inl (or_iff.mp (of_decide_eq_true this)))
    refine ⟨hl, fun sm h1 h2 hap => ?_⟩
    rcases hq with hq | hq
    · have : ns.length = 1 := by
        rcases Nat.eq_zero_or_pos ns.length with q | q
        · rw [q] at h2; simp at h2; omega
        · omega
      rw [this] at h2
      have hsm : sm = 1 := by omega
      obtain ⟨t0, hi2⟩ : ∃ t0, ns[0]? = some t0 := ⟨_, List.getElem?_eq_getElem (by omega)⟩
      have a0 := hap 0 (by omega) (by rw [hsm]; decide)
      rw [gD hi2] at a0
      have hpp := hp _ (hmem hi2)
      unfold pairB at hpp
      have a1 : t0 &&& s = 0 := by rw [Nat.and_comm]; exact a0
      rw [if_pos a1, Bool.not_eq_true'] at hpp
      have e : unN ns sm s ns.length = t0 ||| s := by
        rw [this, unN_succ, if_pos (by rw [hsm]; decide), gD hi2, Nat.or_comm]
        rfl
      rw [e]
      exact hpp
    · let sl : Nat → Bool := fun t => pb (∃ i, i < ns.length ∧ sm.testBit i = true ∧ ns[i]? = some t)
      have hsl : ∀ t, t < 32 → (bt (maskOf sl) t = true ↔ ∃ i, i < ns.length ∧ sm.testBit i = true ∧ ns[i]? = some t) := by
        intro t ht
        rw [maskOf_bt _ ht]; exact pb_true
      have h32 : ∀ t ∈ ns, t < 32 := fun t ht => by have := (hns t ht).2; omega
      cases hres : bt S (unN ns sm s ns.length) with
      | false => rfl
      | true =>
        exfalso
        apply hq.2
        refine ⟨maskOf sl, fun e0 => ?_, ?_, ?_⟩
        · -- some bit of sm is set
          have : ∃ i, i < ns.length ∧ sm.testBit i = true := by
            apply Classical.byContradiction
            intro hno
            have : sm = 0 := by
              apply Nat.eq_of_testBit_eq
              intro i
              rw [Nat.zero_testBit]
              cases hb : sm.testBit i with
              | false => rfl
              | true =>
                rcases Nat.lt_or_ge i ns.length with q | q
                · exact absurd ⟨i, q, hb⟩ hno
                · rw [Nat.testBit_lt_two_pow (Nat.lt_of_lt_of_le h2 (Nat.pow_le_pow_right (by omega) q))] at hb
                  cases hb
            omega
          obtain ⟨i, hi, hb⟩ := this
          have hi2 : ns[i]? = some (ns[i]) := List.getElem?_eq_getElem hi
          have := (hsl _ (h32 _ (hmem hi2))).mpr ⟨i, hi, hb, hi2⟩
          rw [e0, b_0] at this
          cases this
        · apply b_ext
          intro t ht
          rw [b_and]
          cases hb : bt (maskOf sl) t with
          | false => rfl
          | true =>
            obtain ⟨i, hi, h3, h4⟩ := (hsl t ht).mp hb
            unfold apM
            rw [maskOf_bt _ ht, chM_bt ht, decide_eq_true (hmem h4)]
            have a0 := hap i hi h3
            rw [gD h4] at a0
            have : s &&& t = 0 := by
              rw [dis_iff]
              intro q q1 q2
              exact (dis_iff.mp a0) q ((unN_tb _ _ _ _ _).mpr (Or.inl q1)) q2
            rw [decide_eq_true this]; rfl
        · have e : unN ns sm s ns.length = unL (els (maskOf sl)) s := by
            apply Nat.eq_of_testBit_eq
            intro q
            have h1 := unN_tb ns sm s ns.length q
            have h2 := unL_tb (els (maskOf sl)) s q
            have h3 : (∃ i, i < ns.length ∧ sm.testBit i = true ∧ (ns.getD i 0).testBit q = true) ↔ ∃ t ∈ els (maskOf sl), t.testBit q = true := by
              constructor
              · rintro ⟨i, hi, h4, h5⟩
                have hi2 : ns[i]? = some (ns[i]) := List.getElem?_eq_getElem hi
                rw [gD hi2] at h5
                have l32 := h32 _ (hmem hi2)
                exact ⟨ns[i], els_mem.mpr ⟨l32, (hsl _ l32).mpr ⟨i, hi, h4, hi2⟩⟩, h5⟩
              · rintro ⟨t, ht, h5⟩
                obtain ⟨t1, t2⟩ := els_mem.mp ht
                obtain ⟨i, hi, h6, h7⟩ := (hsl t t1).mp t2
                exact ⟨i, hi, h6, by rw [gD h7]; exact h5⟩
            rw [h3] at h1
            exact bool_iff (h1.trans h2.symm)
          rw [← e]
          exact hres
def opB (S : Int32) (ns : List Nat) (t : Nat) : Bool := bt S t && ns.all (fun u => pairB S u t)
theorem gn_cg {n : Nat} {S : Int32} : ∀ (m s f : Nat) (ns : List Nat), 1 ≤ s → s + m ≤ 32 → m ≤ f → ns.Pairwise lam → ns.Pairwise (fun a b => a < b) → (∀ t ∈ ns, 1 ≤ t ∧ t < s) → gnL n S m s ns = cgL n S f ns ((List.range' s m).filter (opB S ns))
  | 0, s, f, ns, _, _, _, _, _, _ => by
    show [] = cgL n S f ns []
    rw [cgL_nil]
  | m + 1, s, f, ns, h1, h2, hf, hlam, hinc, hns => by
    obtain ⟨f', rfl⟩ : ∃ f', f = f' + 1 := ⟨f - 1, by omega⟩
    have hns1 : ∀ t ∈ ns, 1 ≤ t ∧ t < s + 1 := fun t ht => ⟨(hns t ht).1, by have := (hns t ht).2; omega⟩
    rw [gnL_nd, List.range'_succ]
    have htk := takes_iff (S := S) hlam hinc hns (by omega)
    by_cases c : opB S ns s = true
    · rw [List.filter_cons_of_pos c, cgL_cons]
      have hb : bt S s = true ∧ ∀ u ∈ ns, pairB S u s = true := by
        unfold opB at c
        rw [Bool.and_eq_true, List.all_eq_true] at c
        exact c
      have e1 : (bt S s && pb (TakesR S ns s)) = (decide (ns.length < 2) || pb (ntP S (chM ns) s)) := by
        rw [hb.1, Bool.true_and]
        cases hq : (decide (ns.length < 2) || pb (ntP S (chM ns) s)) with
        | true =>
          rw [pb_true, htk]
          refine ⟨hb.2, ?_⟩
          rw [Bool.or_eq_true, decide_eq_true_eq, pb_true] at hq
          exact hq
        | false =>
          rw [pb_false, htk]
          intro q
          rw [Bool.or_eq_false_iff, decide_eq_false_iff_not, pb_false] at hq
          rcases q.2 with z | z
          · exact hq.1 z
          · exact hq.2 z
      rw [e1, gn_cg m (s + 1) f' ns (by omega) (by omega) (by omega) hlam hinc hns1]
      congr 1
      split
      · rename_i hq
        have htr : TakesR S ns s := by
          rw [← e1, hb.1, Bool.true_and, pb_true] at hq
          exact hq
        have hlam2 : (ns ++ [s]).Pairwise lam := List.pairwise_append.mpr ⟨hlam, List.pairwise_singleton _ _, fun a ha b hb2 => by
          have : b = s := by simpa using hb2
          rw [this]; exact htr.1 a ha⟩
        have hinc2 : (ns ++ [s]).Pairwise (fun a b => a < b) := List.pairwise_append.mpr ⟨hinc, List.pairwise_singleton _ _, fun a ha b hb2 => by
          have : b = s := by simpa using hb2
          rw [this]; exact (hns a ha).2⟩
        have hns2 : ∀ t ∈ ns ++ [s], 1 ≤ t ∧ t < s + 1 := fun t ht => by
          rcases List.mem_append.mp ht with q | q
          · exact hns1 t q
          · have : t = s := by simpa using q
            omega
        unfold ndL cnL
        rw [gn_cg m (s + 1) f' (ns ++ [s]) (by omega) (by omega) (by omega) hlam2 hinc2 hns2]
        congr 2
        rw [List.filter_filter]
        congr 1
        apply List.filter_congr
        intro t _
        unfold opB
        rw [List.all_append, List.all_cons, List.all_nil, Bool.and_true]
        cases bt S t <;> cases (ns.all fun u => pairB S u t) <;> cases pairB S s t <;> rfl
      · rfl
    · have e1 : (bt S s && pb (TakesR S ns s)) = false := by
        cases hbs : bt S s with
        | false => rfl
        | true =>
          rw [Bool.true_and, pb_false, htk]
          intro q
          apply c
          unfold opB
          rw [hbs, Bool.true_and, List.all_eq_true]
          exact q.1
      rw [e1, if_neg (by decide), List.nil_append, List.filter_cons_of_neg c]
      exact gn_cg m (s + 1) (f' + 1) ns (by omega) (by omega) (by omega) hlam hinc hns1
theorem faces_els {n : Nat} {S : Int32} (hF : Fam n S) : els (delM S (2 ^ n - 1)) = (List.range' 1 (2 ^ n - 2)).filter (bt S) := by
  have p5 := pow5 hF.2.1
  have p4 : 4 ≤ 2 ^ n := (Nat.pow_le_pow_right (by omega) hF.1 : 2 ^ 2 ≤ 2 ^ n)
  unfold els
  have e1 : List.range 32 = 0 :: (List.range' 1 (2 ^ n - 2) ++ List.range' (2 ^ n - 1) (33 - 2 ^ n)) := by
    rw [show List.range 32 = 0 :: List.range' 1 31 by decide]
    congr 1
    rw [show 31 = (2 ^ n - 2) + (33 - 2 ^ n) by omega, ← List.range'_append_1, show 1 + (2 ^ n - 2) = 2 ^ n - 1 by omega]
  rw [e1, List.filter_cons_of_neg (by rw [delM_bt S (by omega), hF.b0]; simp), List.filter_append]
  have e2 : (List.range' (2 ^ n - 1) (33 - 2 ^ n)).filter (bt (delM S (2 ^ n - 1))) = [] := by
    apply List.filter_eq_nil_iff.mpr
    intro t ht hb
    rw [List.mem_range'_1] at ht
    rw [delM_bt S (by omega)] at hb
    simp only [Bool.and_eq_true, Bool.not_eq_true', decide_eq_false_iff_not] at hb
    have := (hF.2.2.1 t (by omega) hb.1).2
    omega
  rw [e2, List.append_nil]
  apply List.filter_congr
  intro t ht
  rw [List.mem_range'_1] at ht
  rw [delM_bt S (by omega), decide_eq_false (by omega)]
  simp
theorem all_cn {n : Nat} {S : Int32} (hF : Fam n S) : cnL n S 32 [] (els (delM S (2 ^ n - 1))) = allN n S := by
  have p5 := pow5 hF.2.1
  have p4 : 4 ≤ 2 ^ n := (Nat.pow_le_pow_right (by omega) hF.1 : 2 ^ 2 ≤ 2 ^ n)
  unfold cnL allN ndL
  rw [faces_els hF, gn_cg (2 ^ n - 2) 1 32 [] (Nat.le_refl 1) (by omega) (by omega) List.Pairwise.nil List.Pairwise.nil (fun t ht => by cases ht)]
  congr 3
  apply List.filter_congr
  intro t _
  unfold opB
  simp
