/-! THE SPECIFICATION, 5: corners in their order; THE REFERENCE, 23: finds -/
def rowF (n : Nat) (S : Int32) (x : List Nat) (p : Nat) : Nat := if p < n then stdN S (aroundN n (chM x) p) p else 0
theorem rowF_le (n : Nat) (S : Int32) (x : List Nat) (p : Nat) : rowF n S x p ≤ 32 := by
  unfold rowF
  split
  · exact cnt_le _ _
  · omega
def ahL (n : Nat) (S : Int32) (x y : List Nat) : Bool := ahF (rowF n S x) (rowF n S y) n 0
/-- puts x into a row that stands the greatest first -/
def insR (n : Nat) (S : Int32) (x : List Nat) : List (List Nat) → List (List Nat)
  | [] => [x]
  | y :: t => if ahL n S x y = true then y :: insR n S x t else x :: y :: t
theorem insR_cons (n : Nat) (S : Int32) (x y : List Nat) (t : List (List Nat)) : insR n S x (y :: t) = if ahL n S x y = true then y :: insR n S x t else x :: y :: t := rfl
def srtR (n : Nat) (S : Int32) : List (List Nat) → List (List Nat) → List (List Nat)
  | [], acc => acc
  | x :: l, acc => srtR n S l (insR n S x acc)
theorem srtR_cons (n : Nat) (S : Int32) (x : List Nat) (l acc : List (List Nat)) : srtR n S (x :: l) acc = srtR n S l (insR n S x acc) := rfl
noncomputable def cornS (n : Nat) (S : Int32) : List (List Nat) := (srtR n S (corL n (allN n S)) []).reverse
noncomputable def cornM (n : Nat) (S : Int32) : List Int32 := (cornS n S).map chM
theorem insR_len (n : Nat) (S : Int32) (x : List Nat) : ∀ t, (insR n S x t).length = t.length + 1
  | [] => rfl
  | y :: t => by
    rw [insR_cons]
    split
    · rw [List.length_cons, insR_len n S x t]; rfl
    · rfl
theorem insR_mem (n : Nat) (S : Int32) (x : List Nat) : ∀ (t : List (List Nat)) (z : List Nat), z ∈ insR n S x t ↔ z = x ∨ z ∈ t
  | [], z => by simp [insR]
  | y :: t, z => by
    rw [insR_cons]
    split
    · rw [List.mem_cons, insR_mem n S x t z, List.mem_cons]
      constructor
      · rintro (q | q | q)
        · exact Or.inr (Or.inl q)
        · exact Or.inl q
        · exact Or.inr (Or.inr q)
      · rintro (q | q | q)
        · exact Or.inr (Or.inl q)
        · exact Or.inl q
        · exact Or.inr (Or.inr q)
    · simp
theorem srtR_len (n : Nat) (S : Int32) : ∀ (l acc : List (List Nat)), (srtR n S l acc).length = l.length + acc.length
  | [], acc => by simp [srtR]
  | x :: l, acc => by rw [srtR_cons, srtR_len n S l, insR_len, List.length_cons]; omega
theorem srtR_mem (n : Nat) (S : Int32) : ∀ (l acc : List (List Nat)) (z : List Nat), z ∈ srtR n S l acc ↔ z ∈ l ∨ z ∈ acc
  | [], acc, z => by simp [srtR]
  | x :: l, acc, z => by
    rw [srtR_cons, srtR_mem n S l, insR_mem, List.mem_cons]
    constructor
    · rintro (q | q | q)
      · exact Or.inl (Or.inr q)
      · exact Or.inl (Or.inl q)
      · exact Or.inr q
    · rintro ((q | q) | q)
      · exact Or.inr (Or.inl q)
      · exact Or.inl q
      · exact Or.inr (Or.inr q)
theorem cornS_mem {n : Nat} {S : Int32} {z : List Nat} : z ∈ cornS n S ↔ z ∈ corL n (allN n S) := by
  unfold cornS
  rw [List.mem_reverse, srtR_mem]
  simp
theorem cornS_len (n : Nat) (S : Int32) : (cornS n S).length = (corL n (allN n S)).length := by
  unfold cornS
  rw [List.length_reverse, srtR_len]
  rfl
/-- rows that rise -/
theorem srt_eq : ∀ (l1 l2 : List Nat), l1.Pairwise (fun a b => a < b) → l2.Pairwise (fun a b => a < b) → (∀ a, a ∈ l1 ↔ a ∈ l2) → l1 = l2
  | [], [], _, _, _ => rfl
  | [], b :: t, _, _, h => absurd ((h b).mpr (List.mem_cons_self ..)) (by simp)
  | a :: t, [], _, _, h => absurd ((h a).mp (List.mem_cons_self ..)) (by simp)
  | a :: t1, b :: t2, h1, h2, h => by
    have p1 := List.pairwise_cons.mp h1
    have p2 := List.pairwise_cons.mp h2
    have e : a = b := by
      rcases List.mem_cons.mp ((h a).mp (List.mem_cons_self ..)) with q | q
      · exact q
      · rcases List.mem_cons.mp ((h b).mpr (List.mem_cons_self ..)) with q2 | q2
        · exact q2.symm
        · have := p1.1 b q2
          have := p2.1 a q
          omega
    subst e
    rw [srt_eq t1 t2 p1.2 p2.2 (fun x => ?_)]
    constructor
    · intro q
      rcases List.mem_cons.mp ((h x).mp (List.mem_cons_of_mem _ q)) with q2 | q2
      · have := p1.1 x q; omega
      · exact q2
    · intro q
      rcases List.mem_cons.mp ((h x).mpr (List.mem_cons_of_mem _ q)) with q2 | q2
      · have := p2.1 x q; omega
      · exact q2
def riseL (x : List Nat) : Prop := x.Pairwise (fun a b => a < b) ∧ ∀ t ∈ x, 1 ≤ t ∧ t < 32
theorem rg_rise (P : Nat → Bool) : ((List.range' 1 31).filter P).Pairwise (fun a b => a < b) := List.Pairwise.filter _ (by decide)
theorem els_chM {x : List Nat} (hx : riseL x) : (List.range' 1 31).filter (bt (chM x)) = x := by
  refine srt_eq _ _ (rg_rise _) hx.1 (fun a => ?_)
  rw [List.mem_filter, List.mem_range'_1]
  constructor
  · rintro ⟨q1, q2⟩
    unfold chM at q2
    rw [maskOf_bt _ (by omega), decide_eq_true_eq] at q2
    exact q2
  · intro q
    have := hx.2 a q
    refine ⟨by omega, ?_⟩
    unfold chM
    rw [maskOf_bt _ (by omega), decide_eq_true_eq]
    exact q
theorem nth_chM {x : List Nat} (hx : riseL x) {k : Nat} (hk : k < x.length) : nthF (bt (chM x)) 31 1 k = nI (x.getD k 0) := by
  rw [nthF_els, els_chM hx, List.getD_eq_getElem?_getD, List.getElem?_eq_getElem hk]
  rfl
/-- what the nests' rows are -/
def nsOk (n : Nat) (S : Int32) (s : Nat) (y : List Nat) : Prop := y.Pairwise (fun a b => a < b) ∧ (∀ t ∈ y, 1 ≤ t ∧ t < s ∧ bt S t = true) ∧ y.length ≤ n - 1
theorem gnL_ok {n : Nat} {S : Int32} : ∀ (m s : Nat) (ns y : List Nat), 1 ≤ s → nsOk n S s ns → ns.length < n - 1 → y ∈ gnL n S m s ns → nsOk n S (s + m) y
  | 0, s, ns, y, _, _, _, hy => by simp [gnL] at hy
  | m + 1, s, ns, y, hs, hns, hl, hy => by
    rw [gnL_succ] at hy
    have up : ∀ {z : List Nat}, nsOk n S (s + 1 + m) z → nsOk n S (s + (m + 1)) z := fun hz => by rw [show s + (m + 1) = s + 1 + m by omega]; exact hz
    have hns1 : nsOk n S (s + 1) ns := ⟨hns.1, fun t ht => ⟨(hns.2.1 t ht).1, by have := (hns.2.1 t ht).2.1; omega, (hns.2.1 t ht).2.2⟩, hns.2.2⟩
    rcases List.mem_append.mp hy with q | q
    · split at q
      · rename_i hc
        rw [Bool.and_eq_true] at hc
        have hns2 : nsOk n S (s + 1) (ns ++ [s]) := by
          refine ⟨List.pairwise_append.mpr ⟨hns.1, List.pairwise_singleton _ _, fun a ha b hb => ?_⟩, fun t ht => ?_, ?_⟩
          · have : b = s := by simpa using hb
            have := (hns.2.1 a ha).2.1
            omega
          · rcases List.mem_append.mp ht with q2 | q2
            · exact hns1.2.1 t q2
            · have : t = s := by simpa using q2
              subst this
              exact ⟨hs, by omega, hc.1⟩
          · rw [List.length_append]; simp; omega
        rcases List.mem_cons.mp q with q2 | q2
        · subst q2
          refine ⟨hns2.1, fun t ht => ⟨(hns2.2.1 t ht).1, by have := (hns2.2.1 t ht).2.1; omega, (hns2.2.1 t ht).2.2⟩, hns2.2.2⟩
        · split at q2
          · simp at q2
          · rename_i hne
            exact up (gnL_ok m (s + 1) (ns ++ [s]) y (by omega) hns2 (by rw [List.length_append]; simp; omega) q2)
      · simp at q
    · exact up (gnL_ok m (s + 1) ns y (by omega) hns1 hl q)
theorem allN_ok {n : Nat} {S : Int32} (hn2 : 2 ≤ n) {y : List Nat} (hy : y ∈ allN n S) : nsOk n S (2 ^ n - 1) y := by
  have hp2 : 4 ≤ 2 ^ n := (Nat.pow_le_pow_right (by omega) hn2 : 2 ^ 2 ≤ 2 ^ n)
  unfold allN ndL at hy
  have h0 : nsOk n S 1 [] := ⟨List.Pairwise.nil, fun t ht => by simp at ht, by simp⟩
  rcases List.mem_cons.mp hy with q | q
  · subst q
    exact ⟨List.Pairwise.nil, fun t ht => by simp at ht, by simp⟩
  · rw [if_neg (by simp; omega)] at q
    have := gnL_ok (2 ^ n - 2) 1 [] y (by omega) h0 (by simp; omega) q
    rw [show 1 + (2 ^ n - 2) = 2 ^ n - 1 by omega] at this
    exact this
theorem corn_ok {n : Nat} {S : Int32} (hn : n ≤ 5) (hn2 : 2 ≤ n) {y : List Nat} (hy : y ∈ cornS n S) : nsOk n S (2 ^ n - 1) y ∧ y.length = n - 1 ∧ riseL y := by
  have hp := pow5 hn
  rw [cornS_mem] at hy
  unfold corL at hy
  rw [List.mem_filter, decide_eq_true_eq] at hy
  have h1 := allN_ok hn2 hy.1
  exact ⟨h1, hy.2, h1.1, fun t ht => ⟨(h1.2.1 t ht).1, by have := (h1.2.1 t ht).2.1; omega⟩⟩
def AtP (P : Nat → List Nat → Prop) (L : List (List Nat)) : Prop := ∀ i x, L[i]? = some x → P i x
theorem AtP_sw {P P' : Nat → List Nat → Prop} {A T : List (List Nat)} {x y : List Nat} (h : AtP P (A ++ y :: x :: T)) (h1 : ∀ i z, i ≠ A.length → i ≠ A.length + 1 → P i z → P' i z) (h2 : P (A.length + 1) x → P' A.length x) (h3 : P A.length y → P' (A.length + 1) y) : AtP P' (A ++ x :: y :: T) := by
  intro i z hz
  rw [List.getElem?_append] at hz
  split at hz
  · rename_i hlt
    exact h1 i z (by omega) (by omega) (h i z (by rw [List.getElem?_append, if_pos hlt]; exact hz))
  · rename_i hge
    rcases (show i = A.length ∨ i = A.length + 1 ∨ A.length + 2 ≤ i by omega) with e | e | e
    · subst e
      rw [Nat.sub_self] at hz
      have : x = z := by simpa using hz
      subst this
      exact h2 (h _ _ (by rw [List.getElem?_append, if_neg (by omega), show A.length + 1 - A.length = 1 by omega]; rfl))
    · subst e
      rw [show A.length + 1 - A.length = 1 by omega] at hz
      have : y = z := by simpa using hz
      subst this
      exact h3 (h _ _ (by rw [List.getElem?_append, if_neg (by omega), Nat.sub_self]; rfl))
    · obtain ⟨j, rfl⟩ : ∃ j, i = A.length + 2 + j := ⟨i - (A.length + 2), by omega⟩
      rw [show A.length + 2 + j - A.length = j + 1 + 1 by omega, List.getElem?_cons_succ, List.getElem?_cons_succ] at hz
      exact h1 _ z (by omega) (by omega) (h _ z (by rw [List.getElem?_append, if_neg (by omega), show A.length + 2 + j - A.length = j + 1 + 1 by omega, List.getElem?_cons_succ, List.getElem?_cons_succ]; exact hz))
def PC (C : Nat → Int32) : Nat → List Nat → Prop := fun i x => C i = chM x
def PS (n : Nat) (S : Int32) (St : Nat → Int32) : Nat → List Nat → Prop := fun i x => ∀ p, p < 5 → St (5 * i + p) = nI (rowF n S x p)
theorem PC_sw {C : Nat → Int32} {A T : List (List Nat)} {x y : List Nat} (h : AtP (PC C) (A ++ y :: x :: T)) : AtP (PC (swC C (A.length + 1) A.length)) (A ++ x :: y :: T) := by
  refine AtP_sw h (fun i z e1 e2 hz => ?_) (fun hz => ?_) (fun hz => ?_)
  · unfold PC swC
    rw [pk_un e1, pk_un e2]
    exact hz
  · unfold PC swC
    rw [pk_us]
    exact hz
  · unfold PC swC
    rw [pk_un (by omega), pk_us]
    exact hz
theorem PS_sw {n : Nat} {S : Int32} {St : Nat → Int32} {A T : List (List Nat)} {x y : List Nat} (h : AtP (PS n S St) (A ++ y :: x :: T)) : AtP (PS n S (swS St (A.length + 1) A.length)) (A ++ x :: y :: T) := by
  refine AtP_sw h (fun i z e1 e2 hz p hp => ?_) (fun hz p hp => ?_) (fun hz p hp => ?_)
  · unfold swS
    rw [if_neg (by omega), if_neg (by omega)]
    exact hz p hp
  · unfold swS
    rw [if_neg (by omega), if_pos (by omega), show 5 * (A.length + 1) + (5 * A.length + p - 5 * A.length) = 5 * (A.length + 1) + p by omega]
    exact hz p hp
  · unfold swS
    rw [if_pos (by omega), show 5 * A.length + (5 * (A.length + 1) + p - 5 * (A.length + 1)) = 5 * A.length + p by omega]
    exact hz p hp
