/-! MATHEMATICS, 7: orders -/
theorem smF_congr {f g : Nat → Nat} : ∀ n, (∀ p, p < n → f p = g p) → smF f n = smF g n
  | 0, _ => rfl
  | n + 1, h => by rw [smF_succ, smF_succ, smF_congr n (fun p hp => h p (by omega)), h n (by omega)]
theorem smF_zero {f : Nat → Nat} : ∀ n, (∀ p, p < n → f p = 0) → smF f n = 0
  | 0, _ => rfl
  | n + 1, h => by rw [smF_succ, smF_zero n (fun p hp => h p (by omega)), h n (by omega)]
theorem smF_add (f g : Nat → Nat) : ∀ n, smF (fun p => f p + g p) n = smF f n + smF g n
  | 0 => rfl
  | n + 1 => by rw [smF_succ, smF_succ, smF_succ, smF_add f g n]; omega
theorem smF_mul (f : Nat → Nat) (k : Nat) : ∀ n, smF (fun p => f p * k) n = smF f n * k
  | 0 => by show 0 = 0 * k; omega
  | n + 1 => by rw [smF_succ, smF_succ, smF_mul f k n, Nat.add_mul]
theorem smF_swap (a : Nat → Nat → Nat) : ∀ n m, smF (fun p => smF (a p) m) n = smF (fun q => smF (fun p => a p q) n) m
  | 0, m => (smF_zero m (fun _ _ => rfl)).symm
  | n + 1, m => by
    rw [smF_succ, smF_swap a n m, ← smF_add]
    rfl
theorem smF_le1 {f g : Nat → Nat} : ∀ n, (∀ p, p < n → f p ≤ g p) → smF f n ≤ smF g n
  | 0, _ => Nat.le_refl _
  | n + 1, h => by
    have := smF_le1 n (fun p hp => h p (by omega))
    have := h n (by omega)
    rw [smF_succ, smF_succ]; omega
/-- just one term, and it is 1 -/
theorem smF_one {f : Nat → Nat} {n p : Nat} (hp : p < n) (h1 : f p = 1) (h0 : ∀ q, q < n → q ≠ p → f q = 0) : smF f n = 1 := by
  induction n with
  | zero => omega
  | succ n ih =>
    rw [smF_succ]
    by_cases e : p = n
    · subst e
      rw [smF_zero p (fun q hq => h0 q (by omega) (by omega)), h1]
    · rw [ih (by omega) (fun q hq hne => h0 q (by omega) hne), h0 n (by omega) (Ne.symm e)]
theorem cnt_sm (P : Nat → Bool) : ∀ n, cnt P n = smF (fun q => (P q).toNat) n
  | 0 => rfl
  | n + 1 => by rw [cnt_succ, smF_succ, cnt_sm P n]
theorem pc_pts : ∀ n, n ≤ 5 → ∀ t, t < 2 ^ n → pc t = cnt t.testBit n := by decide +kernel
def pdF (f : Nat → Nat) : Nat → Nat
  | 0 => 1
  | p + 1 => pdF f p * f p
theorem pdF_succ (f : Nat → Nat) (p : Nat) : pdF f (p + 1) = pdF f p * f p := rfl
theorem pdF_congr {f g : Nat → Nat} : ∀ n, (∀ p, p < n → f p = g p) → pdF f n = pdF g n
  | 0, _ => rfl
  | n + 1, h => by rw [pdF_succ, pdF_succ, pdF_congr n (fun p hp => h p (by omega)), h n (by omega)]
theorem pdF_pos {f : Nat → Nat} : ∀ n, (∀ p, p < n → 1 ≤ f p) → 1 ≤ pdF f n
  | 0, _ => Nat.le_refl _
  | n + 1, h => by
    rw [pdF_succ]
    exact Nat.mul_pos (pdF_pos n (fun p hp => h p (by omega))) (h n (by omega))
/-- one factor taken out -/
theorem pdF_out {f g : Nat → Nat} {k n : Nat} (hk : k < n) (h1 : g k = 1) (h : ∀ q, q < n → q ≠ k → g q = f q) : pdF f n = f k * pdF g n := by
  induction n with
  | zero => omega
  | succ n ih =>
    rw [pdF_succ, pdF_succ]
    by_cases e : k = n
    · subst e
      rw [h1, Nat.mul_one, Nat.mul_comm, pdF_congr k (fun q hq => (h q (by omega) (by omega)).symm)]
    · rw [ih (by omega) (fun q hq hne => h q (by omega) hne), h n (by omega) (Ne.symm e), Nat.mul_assoc]
section
variable {n : Nat} {S : Int32}
theorem own_around (hF : Fam n S) {y : List Nat} (hs : srt y) (h : Nst n S (· ∈ y)) {p : Nat} (hp : p < n) : Own n (· ∈ y) p (aroundN n (chM y) p) := by
  have hL : lamL n y := ⟨hs, h.lamL, fun t ht => ⟨(hF.rg (h.1 t ht).2).1, (h.1 t ht).1⟩⟩
  obtain ⟨a1, a2, a3⟩ := around_spec hF.2.1 hL p
  obtain ⟨t, ot⟩ := Own.ex hF h hp
  have hb : (aroundN n (chM y) p).testBit p = true ∧ Pl n (· ∈ y) (aroundN n (chM y) p) := by
    rcases a1 with q | q
    · exact ⟨by rw [q]; exact whole_tb hp, Or.inr q⟩
    · exact ⟨q.2, Or.inl q.1⟩
  have h1 := ot.2.2 _ hb.2 hb.1
  have h2 : aroundN n (chM y) p ≤ t := by
    rcases ot.1 with q | q
    · exact a3 t q ot.2.1
    · rw [q]; exact a2
  have h3 := h1.le
  have e : aroundN n (chM y) p = t := by omega
  rw [e]; exact ot
/-- corner c's sets, by their own points -/
noncomputable def cF (n : Nat) (S : Int32) (c p : Nat) : Nat := aroundN n (chM ((cornS n S).getD c [])) p
end
section
variable {n : Nat} {S : Int32}
theorem cF_own (hF : Fam n S) {c p : Nat} (hc : c < (cornS n S).length) (hp : p < n) : Own n (· ∈ crL n S c) p (cF n S c p) := own_around hF (crL_C hF hc).1 (crL_C hF hc).2.1 hp
theorem cF_inj (hF : Fam n S) {c p q : Nat} (hc : c < (cornS n S).length) (hp : p < n) (hq : q < n) (h : cF n S c p = cF n S c q) : p = q := by
  have hC := crL_C hF hc
  have hn2 := hF.1
  exact own_inj hF hC.2.1 hC.1.nodup (by rw [hC.2.2]; omega) hp hq (cF_own hF hc hp) (h ▸ cF_own hF hc hq)
theorem crow_cF {c p : Nat} (hp : p < n) : crow n S c p = stdN S (cF n S c p) p := by
  unfold crow rowF
  rw [if_pos hp]
  rfl
/-- all whose sets have p come before it -/
def gdL (n : Nat) (S : Int32) (c : Nat) (od : List Nat) : Prop := ∀ i p, od[i]? = some p → ∀ r, r < n → (cF n S c r).testBit p = true → r ≠ p → r ∈ od.take i
theorem gdL_app {c p : Nat} {od : List Nat} : gdL n S c (od ++ [p]) ↔ gdL n S c od ∧ ∀ r, r < n → (cF n S c r).testBit p = true → r ≠ p → r ∈ od := by
  constructor
  · intro h
    refine ⟨fun i q hi r h1 h2 h3 => ?_, fun r h1 h2 h3 => ?_⟩
    · have il := (List.getElem?_eq_some_iff.mp hi).1
      have := h i q (by rw [List.getElem?_append_left il]; exact hi) r h1 h2 h3
      rw [List.take_append_of_le_length (by omega)] at this
      exact this
    · have := h od.length p (by rw [List.getElem?_append_right (Nat.le_refl _), Nat.sub_self]; rfl) r h1 h2 h3
      rw [List.take_append_of_le_length (Nat.le_refl _), List.take_length] at this
      exact this
  · rintro ⟨h1, h2⟩ i q hi r r1 r2 r3
    rcases Nat.lt_or_ge i od.length with c1 | c1
    · rw [List.getElem?_append_left c1] at hi
      rw [List.take_append_of_le_length (by omega)]
      exact h1 i q hi r r1 r2 r3
    · have hlt := (List.getElem?_eq_some_iff.mp hi).1
      rw [List.length_append] at hlt
      have e : i = od.length := by simp at hlt; omega
      subst e
      rw [List.getElem?_append_right (Nat.le_refl _), Nat.sub_self] at hi
      have : p = q := by simpa using hi
      subst this
      rw [List.take_append_of_le_length (Nat.le_refl _), List.take_length]
      exact h2 r r1 r2 r3
theorem fst_iff {od : List Nat} (hd : od.Nodup) {s p : Nat} : fstP od s = some p ↔ s.testBit p = true ∧ ∃ i, od[i]? = some p ∧ ∀ q, q ∈ od.take i → ¬ s.testBit q = true := by
  unfold fstP
  constructor
  · intro h
    have h1 := List.find?_some h
    obtain ⟨as, bs, e, h2⟩ := (List.find?_eq_some_iff_append.mp h).2
    refine ⟨h1, as.length, by rw [e, List.getElem?_append_right (Nat.le_refl _), Nat.sub_self]; rfl, fun q hq => ?_⟩
    rw [e, List.take_append_of_le_length (Nat.le_refl _), List.take_length] at hq
    have := h2 q hq
    simpa using this
  · rintro ⟨h1, i, h2, h3⟩
    refine List.find?_eq_some_iff_append.mpr ⟨h1, od.take i, od.drop (i + 1), ?_, fun q hq => ?_⟩
    · have := drop_cons h2
      rw [← this, List.take_append_drop]
    · have := h3 q hq
      simpa using this
/-- an order leads to a corner just when it is good for it -/
theorem rows_good (hF : Fam n S) {c : Nat} (hc : c < (cornS n S).length) {od : List Nat} (hd : od.Nodup) (hlt : ∀ p ∈ od, p < n) (hall : ∀ p, p < n → p ∈ od) : (∀ p, p < n → crow n S c p = cntO S od p) ↔ gdL n S c od := by
  have hC := crL_C hF hc
  have ow := fun {p : Nat} (hp : p < n) => cF_own hF hc hp
  have inj := fun {p q : Nat} (hp : p < n) (hq : q < n) (h : cF n S c p = cF n S c q) => cF_inj hF hc hp hq h
  -- the own point of what is around s
  have oin : ∀ {s : Nat}, bt S s = true → ∃ q, q < n ∧ s.testBit q = true ∧ sbs s (cF n S c q) ∧ ∀ u, Pl n (· ∈ crL n S c) u → sbs s u → sbs (cF n S c q) u := by
    intro s hs
    obtain ⟨T, q, T1, T2, q1, q2, oq, Tm⟩ := own_in hF hC.2.1 hs
    have e : T = cF n S c q := oq.uniq (ow q1)
    exact ⟨q, q1, q2, e ▸ T2, fun u hu hsu => e ▸ Tm u hu hsu⟩
  constructor
  · intro hrow
    -- along the order
    have key : ∀ i, i ≤ od.length → gdL n S c (od.take i) := by
      intro i
      induction i with
      | zero => intro _ j q hj; simp at hj
      | succ i ih =>
        intro hi
        have gi := ih (by omega)
        have hp : od[i]? = some od[i] := List.getElem?_eq_getElem (by omega)
        generalize od[i] = p at hp
        have hpm := List.mem_of_getElem? hp
        have hpn := hlt p hpm
        have et : od.take (i + 1) = od.take i ++ [p] := by rw [List.take_succ, hp]; rfl
        rw [et, gdL_app]
        refine ⟨gi, ?_⟩
        have pN : p ∉ od.take i := fun q => by
          obtain ⟨j, hj, ej⟩ := List.mem_iff_getElem.mp q
          rw [List.getElem_take] at ej
          have hj2 : j < i := by rw [List.length_take] at hj; omega
          have := nodup_idx hd (show od[j]? = some p by rw [List.getElem?_eq_getElem (by rw [List.length_take] at hj; omega), ej]) hp
          omega
        -- what is left is closed downwards
        have down : ∀ r, r < n → r ∉ od.take i → ∀ x, (cF n S c r).testBit x = true → x ∉ od.take i := by
          intro r hr hrn x hx hxm
          by_cases e : r = x
          · rw [e] at hrn; exact hrn hxm
          · obtain ⟨j, hj, ej⟩ := List.mem_iff_getElem.mp hxm
            have hj2 : (od.take i)[j]? = some x := by rw [List.getElem?_eq_getElem hj, ej]
            have := gi j x hj2 r hr hx e
            exact hrn (List.mem_of_mem_take this)
        intro r hr hrp hne
        apply Classical.byContradiction
        intro hrn
        -- counts differ
        have hlt2 : crow n S c p < cntO S od p := by
          rw [crow_cF hpn]
          unfold stdN cntO
          refine cnt_lt 32 (fun s hs hB => ?_) ⟨cF n S c r, bt_lt (hC.2.1.pl hF (ow hr).1).1, ?_, ?_⟩
          · unfold stB at hB
            simp only [Bool.and_eq_true, decide_eq_true_eq] at hB
            unfold ctB
            rw [hB.1.1, Bool.true_and, decide_eq_true_eq, fst_iff hd]
            refine ⟨hB.2, i, hp, fun q hq hsq => ?_⟩
            exact down p hpn pN q ((sub_iff.mp hB.1.2) q hsq) hq
          · unfold ctB
            rw [(hC.2.1.pl hF (ow hr).1).1, Bool.true_and, decide_eq_true_eq, fst_iff hd]
            exact ⟨hrp, i, hp, fun q hq hrq => down r hr hrn q hrq hq⟩
          · unfold stB
            have : ¬ (cF n S c r) &&& (cF n S c p) = cF n S c r := by
              intro e
              have h1 := sub_iff.mp e
              have h2 := (ow hpn).2.2 _ (ow hr).1 hrp
              exact hne (inj hr hpn (sbs.antisymm h1 h2))
            rw [decide_eq_false this]
            simp
        rw [hrow p hpn] at hlt2
        omega
    have := key od.length (Nat.le_refl _)
    rw [List.take_length] at this
    exact this
  · intro hg p hp
    rw [crow_cF hp]
    unfold stdN cntO
    apply cnt_congr
    intro s hs
    unfold stB ctB
    cases hbs : bt S s with
    | false => rfl
    | true =>
      rw [Bool.true_and, Bool.true_and]
      obtain ⟨q, q1, q2, q3, q4⟩ := oin hbs
      -- q is the first of s
      have hfq : fstP od s = some q := by
        rw [fst_iff hd]
        obtain ⟨i, hi, ei⟩ := List.mem_iff_getElem.mp (hall q q1)
        have hi2 : od[i]? = some q := by rw [List.getElem?_eq_getElem hi, ei]
        refine ⟨q2, i, hi2, fun x hx hsx => ?_⟩
        have hxo := List.mem_of_mem_take hx
        by_cases e : q = x
        · subst e
          obtain ⟨j, hj, ej⟩ := List.mem_iff_getElem.mp hx
          rw [List.getElem_take] at ej
          rw [List.length_take] at hj
          have := nodup_idx hd (show od[j]? = some q by rw [List.getElem?_eq_getElem (by omega), ej]) hi2
          omega
        · obtain ⟨j, hj, ej⟩ := List.mem_iff_getElem.mp hx
          rw [List.getElem_take] at ej
          rw [List.length_take] at hj
          have hj2 : od[j]? = some x := by rw [List.getElem?_eq_getElem (by omega), ej]
          have h1 := hg j x hj2 q q1 (q3 x hsx) e
          obtain ⟨k, hk, ek⟩ := List.mem_iff_getElem.mp h1
          rw [List.getElem_take] at ek
          rw [List.length_take] at hk
          have := nodup_idx hd (show od[k]? = some q by rw [List.getElem?_eq_getElem (by omega), ek]) hi2
          omega
      rw [hfq]
      apply bool_iff
      rw [Bool.and_eq_true, decide_eq_true_eq, decide_eq_true_eq, sub_iff]
      constructor
      · rintro ⟨h1, h2⟩
        have a1 := q4 _ (ow hp).1 h1
        have a2 := (ow hp).2.2 _ (ow q1).1 (q3 p h2)
        rw [inj q1 hp (a1.antisymm a2)]
      · intro e
        have : q = p := by simpa using e
        subst this
        exact ⟨q3, q2⟩
/-- an order is good for one corner only -/
theorem good_one (hF : Fam n S) {c e : Nat} (hc : c < (cornS n S).length) (he : e < (cornS n S).length) {od : List Nat} (hd : od.Nodup) (hlt : ∀ p ∈ od, p < n) (hall : ∀ p, p < n → p ∈ od) (h1 : gdL n S c od) (h2 : gdL n S e od) : c = e := by
  -- the set of a point is the greatest that has none of those before it
  have gr : ∀ {c : Nat}, c < (cornS n S).length → gdL n S c od → ∀ i p, od[i]? = some p → (∀ q, q ∈ od.take i → ¬ (cF n S c p).testBit q = true) ∧ ∀ s, bt S s = true → s.testBit p = true → (∀ q, q ∈ od.take i → ¬ s.testBit q = true) → sbs s (cF n S c p) := by
    intro c hc hg i p hp
    have hC := crL_C hF hc
    have hpn := hlt p (List.mem_of_getElem? hp)
    have before : ∀ {r x : Nat}, r < n → x ∈ od.take i → (cF n S c r).testBit x = true → r ∈ od.take i := by
      intro r x hr hx hrx
      by_cases e : r = x
      · rw [e]; exact hx
      · obtain ⟨j, hj, ej⟩ := List.mem_iff_getElem.mp hx
        rw [List.getElem_take] at ej
        rw [List.length_take] at hj
        have hj2 : od[j]? = some x := by rw [List.getElem?_eq_getElem (by omega), ej]
        have := hg j x hj2 r hr hrx e
        have h5 : od.take j = (od.take i).take j := by rw [List.take_take, Nat.min_eq_left (by omega)]
        rw [h5] at this
        exact List.mem_of_mem_take this
    have pN : p ∉ od.take i := fun q => by
      obtain ⟨j, hj, ej⟩ := List.mem_iff_getElem.mp q
      rw [List.getElem_take] at ej
      rw [List.length_take] at hj
      have := nodup_idx hd (show od[j]? = some p by rw [List.getElem?_eq_getElem (by omega), ej]) hp
      omega
    refine ⟨fun q hq hb => pN (before hpn hq hb), fun s hs hsp hsa => ?_⟩
    obtain ⟨T, q, T1, T2, q1, q2, oq, Tm⟩ := own_in hF hC.2.1 hs
    have e : T = cF n S c q := oq.uniq (cF_own hF hc q1)
    by_cases eq : q = p
    · rw [eq] at e; rw [← e]; exact T2
    · exfalso
      have := hg i p hp q q1 (by rw [← e]; exact T2 p hsp) eq
      exact hsa q this q2
  refine crL_sub hF hc he (fun t ht => ?_)
  have hC := crL_C hF hc
  have hE := crL_C hF he
  obtain ⟨p, hp, op⟩ := own_pt hF hC.2.1 (Or.inl ht)
  have et : t = cF n S c p := op.uniq (cF_own hF hc hp)
  obtain ⟨i, hi, ei⟩ := List.mem_iff_getElem.mp (hall p hp)
  have hi2 : od[i]? = some p := by rw [List.getElem?_eq_getElem hi, ei]
  obtain ⟨a1, a2⟩ := gr hc h1 i p hi2
  obtain ⟨b1, b2⟩ := gr he h2 i p hi2
  have oc := cF_own hF hc hp
  have oe := cF_own hF he hp
  have e1 := a2 _ (hE.2.1.pl hF oe.1).1 oe.2.1 b1
  have e2 := b2 _ (hC.2.1.pl hF oc.1).1 oc.2.1 a1
  have ee : cF n S e p = t := by rw [et]; exact sbs.antisymm e1 e2
  rw [ee] at oe
  rcases oe.1 with q | q
  · exact q
  · have := (hC.2.1.1 t ht).1
    omega
end
