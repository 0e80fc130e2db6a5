/-! MATHEMATICS, 8: how many orders lead to a corner; how many corners -/
section
variable {n : Nat} {S : Int32}
/-- od and what is left make up the points -/
def odI (n l : Nat) (od : List Nat) (m : Nat) : Prop := od.Nodup ∧ (∀ p ∈ od, p < n) ∧ l < 2 ^ n ∧ (∀ p, p < n → (l.testBit p = true ↔ p ∉ od)) ∧ od.length + m = n
theorem clrB_tb {l p q : Nat} (hp : p < 5) (hq : q < 5) : (clrB l p).testBit q = (l.testBit q && !decide (q = p)) := by
  unfold clrB
  rw [Nat.testBit_and, Nat.testBit_xor, Nat.testBit_two_pow, show (31 : Nat) = 2 ^ 5 - 1 by rfl, Nat.testBit_two_pow_sub_one, decide_eq_true hq]
  by_cases e : q = p
  · subst e; simp
  · rw [decide_eq_false (show ¬ p = q from fun z => e z.symm), decide_eq_false e]; simp
theorem odI.step (hn : n ≤ 5) {l m p : Nat} {od : List Nat} (h : odI n l od (m + 1)) (hp : p < n) (hl : l.testBit p = true) : odI n (clrB l p) (od ++ [p]) m := by
  obtain ⟨h1, h2, h3, h4, h5⟩ := h
  have hpo := (h4 p hp).mp hl
  refine ⟨List.nodup_append.mpr ⟨h1, by simp, fun a ha b hb => ?_⟩, fun q hq => ?_, ?_, fun q hq => ?_, by rw [List.length_append]; simp; omega⟩
  · have : b = p := by simpa using hb
    rw [this]; exact fun e => hpo (e ▸ ha)
  · rcases List.mem_append.mp hq with z | z
    · exact h2 q z
    · have : q = p := by simpa using z
      omega
  · exact Nat.lt_of_le_of_lt Nat.and_le_left h3
  · rw [clrB_tb (by omega) (by omega), Bool.and_eq_true, Bool.not_eq_true', decide_eq_false_iff_not, h4 q hq, List.mem_append]
    constructor
    · rintro ⟨a, b⟩ (z | z)
      · exact a z
      · exact b (by simpa using z)
    · intro z
      exact ⟨fun a => z (Or.inl a), fun a => z (Or.inr (by simp [a]))⟩
theorem odI.full {l : Nat} {od : List Nat} (h : odI n l od 0) : ∀ p, p < n → p ∈ od := full_row (by have := h.2.2.2.2; omega) h.1 h.2.1
theorem ldF_some {P : Nat → Bool} : ∀ (m c e : Nat), ldF P m c = some e → c ≤ e ∧ e < c + m ∧ P e = true
  | 0, c, e, h => by cases h
  | m + 1, c, e, h => by
    have h2 : (if P c = true then some c else ldF P m (c + 1)) = some e := h
    split at h2
    · cases h2; exact ⟨Nat.le_refl _, by omega, by assumption⟩
    · obtain ⟨a, b, d⟩ := ldF_some m (c + 1) e h2
      exact ⟨by omega, by omega, d⟩
theorem ldF_ex {P : Nat → Bool} : ∀ (m c e : Nat), c ≤ e → e < c + m → P e = true → ∃ e', ldF P m c = some e'
  | 0, c, e, h1, h2, _ => by omega
  | m + 1, c, e, h1, h2, h3 => by
    show ∃ e', (if P c = true then some c else ldF P m (c + 1)) = some e'
    by_cases q : P c = true
    · exact ⟨c, by rw [if_pos q]⟩
    · rw [if_neg q]
      exact ldF_ex m (c + 1) e (by have : c ≠ e := fun z => q (z ▸ h3); omega) (by omega) h3
/-- where a whole order leads -/
theorem leads_iff (hF : Fam n S) {c l : Nat} (hc : c < (cornS n S).length) {od : List Nat} (h : odI n l od 0) : leadsN n S od = some c ↔ gdL n S c od := by
  have hall := h.full
  have rg := fun {e : Nat} (he : e < (cornS n S).length) => rows_good hF he h.1 h.2.1 hall
  constructor
  · intro hl
    obtain ⟨_, _, h3⟩ := ldF_some _ _ _ hl
    exact (rg hc).mp (pb_true.mp h3)
  · intro hg
    obtain ⟨e, he⟩ := ldF_ex (P := ldB n S od) (cornS n S).length 0 c (by omega) (by omega) (pb_true.mpr ((rg hc).mpr hg))
    obtain ⟨_, h2, h3⟩ := ldF_some _ _ _ he
    have hge := (rg (show e < (cornS n S).length by omega)).mp (pb_true.mp h3)
    have := good_one hF hc (show e < (cornS n S).length by omega) h.1 h.2.1 hall hg hge
    rw [this]; exact he
noncomputable def prF (n : Nat) (S : Int32) (c l : Nat) : Nat → Nat := fun p => if l.testBit p = true then pc (cF n S c p) else 1
theorem orF_succ2 (c m l : Nat) (od : List Nat) : orF n S c (m + 1) l od = smF (fun p => if l.testBit p = true then orF n S c m (clrB l p) (od ++ [p]) else 0) n := rfl
theorem orF_bad (hF : Fam n S) {c : Nat} (hc : c < (cornS n S).length) : ∀ (m l : Nat) (od : List Nat), odI n l od m → ¬ gdL n S c od → orF n S c m l od = 0
  | 0, l, od, h, hb => by
    show (decide (leadsN n S od = some c)).toNat = 0
    rw [decide_eq_false (fun q => hb ((leads_iff hF hc h).mp q))]
    rfl
  | m + 1, l, od, h, hb => by
    rw [orF_succ2]
    refine smF_zero n (fun p hp => ?_)
    split
    · rename_i hl
      exact orF_bad hF hc m _ _ (h.step hF.2.1 hp hl) (fun q => hb (gdL_app.mp q).1)
    · rfl
theorem orF_good (hF : Fam n S) {c : Nat} (hc : c < (cornS n S).length) : ∀ (m l : Nat) (od : List Nat), odI n l od m → gdL n S c od → orF n S c m l od * pdF (prF n S c l) n = fcN m
  | 0, l, od, h, hg => by
    have e1 : orF n S c 0 l od = 1 := by
      show (decide (leadsN n S od = some c)).toNat = 1
      rw [decide_eq_true ((leads_iff hF hc h).mpr hg)]
      rfl
    have e2 : pdF (prF n S c l) n = 1 := by
      have : pdF (prF n S c l) n = pdF (fun _ => 1) n := pdF_congr n (fun p hp => by
        unfold prF
        rw [if_neg (fun z => (h.2.2.2.1 p hp).mp z (h.full p hp))])
      rw [this]
      have one : ∀ k, pdF (fun _ => 1) k = 1 := by
        intro k
        induction k with
        | zero => rfl
        | succ k ih => rw [pdF_succ, ih]
      exact one n
    rw [e1, e2]
    rfl
  | m + 1, l, od, h, hg => by
    have hn := hF.2.1
    have hC := crL_C hF hc
    have ow := fun {p : Nat} (hp : p < n) => cF_own hF hc hp
    obtain ⟨h1, h2, h3, h4, h5⟩ := h
    have h : odI n l od (m + 1) := ⟨h1, h2, h3, h4, h5⟩
    -- top: all whose sets have p are placed
    let top : Nat → Prop := fun p => l.testBit p = true ∧ ∀ r, r < n → (cF n S c r).testBit p = true → r ≠ p → r ∈ od
    -- what is left is closed downwards
    have down : ∀ r, r < n → l.testBit r = true → ∀ x, x < n → (cF n S c r).testBit x = true → l.testBit x = true := by
      intro r hr hrl x hx hrx
      apply Classical.byContradiction
      intro hxl
      have hxo : x ∈ od := by
        apply Classical.byContradiction
        intro q
        exact hxl ((h4 x hx).mpr q)
      by_cases e : r = x
      · rw [e] at hrl; exact hxl hrl
      · obtain ⟨j, hj, ej⟩ := List.mem_iff_getElem.mp hxo
        have := hg j x (by rw [List.getElem?_eq_getElem hj, ej]) r hr hrx e
        exact (h4 r hr).mp hrl (List.mem_of_mem_take this)
    have term : ∀ p, p < n → (if l.testBit p = true then orF n S c m (clrB l p) (od ++ [p]) else 0) * pdF (prF n S c l) n = (if pb (top p) = true then cnt (cF n S c p).testBit n else 0) * fcN m := by
      intro p hp
      by_cases hl : l.testBit p = true
      · rw [if_pos hl]
        have hst := h.step hn hp hl
        by_cases ht : top p
        · rw [if_pos (pb_true.mpr ht)]
          have ih := orF_good hF hc m (clrB l p) (od ++ [p]) hst (gdL_app.mpr ⟨hg, ht.2⟩)
          have eo : pdF (prF n S c l) n = prF n S c l p * pdF (prF n S c (clrB l p)) n := pdF_out hp (by
            unfold prF
            rw [if_neg (by rw [clrB_tb (by omega) (by omega), decide_eq_true rfl]; simp)]) (fun q hq hne => by
            unfold prF
            rw [clrB_tb (by omega) (by omega), decide_eq_false hne]
            simp)
          have ep : prF n S c l p = cnt (cF n S c p).testBit n := by
            unfold prF
            rw [if_pos hl, pc_pts n hn _ (hC.2.1.pl hF (ow hp).1).2]
          rw [eo, ep, ← ih]
          rw [Nat.mul_left_comm]
        · rw [if_neg (by rw [pb_false.mpr ht]; decide), orF_bad hF hc m _ _ hst (fun q => ht ⟨hl, (gdL_app.mp q).2⟩)]
          omega
      · rw [if_neg hl, if_neg (by rw [pb_false.mpr (fun z => hl z.1)]; decide)]
        omega
    rw [orF_succ2, ← smF_mul, smF_congr n term, smF_mul]
    -- tops' sets make up what is left
    have e1 : smF (fun p => if pb (top p) = true then cnt (cF n S c p).testBit n else 0) n = m + 1 := by
      have a1 : smF (fun p => if pb (top p) = true then cnt (cF n S c p).testBit n else 0) n = smF (fun p => smF (fun q => (pb (top p) && (cF n S c p).testBit q).toNat) n) n := smF_congr n (fun p hp => by
        cases hq : pb (top p) with
        | true => rw [if_pos rfl, cnt_sm]; exact smF_congr n (fun q _ => by rw [Bool.true_and])
        | false => rw [if_neg (by decide)]; exact (smF_zero n (fun q _ => by rw [Bool.false_and]; rfl)).symm)
      rw [a1, smF_swap (fun p q => (pb (top p) && (cF n S c p).testBit q).toNat) n n]
      have a2 : smF (fun q => smF (fun p => (pb (top p) && (cF n S c p).testBit q).toNat) n) n = smF (fun q => (l.testBit q).toNat) n := smF_congr n (fun q hq => by
        cases hlq : l.testBit q with
        | false =>
          refine smF_zero n (fun p hp => ?_)
          cases ht : pb (top p) with
          | false => rfl
          | true =>
            rw [Bool.true_and]
            cases hb : (cF n S c p).testBit q with
            | false => rfl
            | true =>
              have := down p hp (pb_true.mp ht).1 q hq hb
              rw [hlq] at this; cases this
        | true =>
          -- the greatest that is left
          obtain ⟨T, T1, ⟨p, p1, p2, p3, p4⟩, T3⟩ := greatest (fun T => ∃ p, p < n ∧ l.testBit p = true ∧ cF n S c p = T ∧ T.testBit q = true) 32 (cF n S c q) (bt_lt (hC.2.1.pl hF (ow hq).1).1) ⟨q, hq, hlq, rfl, (ow hq).2.1⟩
          subst p3
          have htop : top p := by
            refine ⟨p2, fun r hr hrp hne => ?_⟩
            apply Classical.byContradiction
            intro hro
            have hrl := (h4 r hr).mpr hro
            have hsub := (ow p1).2.2 _ (ow hr).1 hrp
            have := T3 _ (bt_lt (hC.2.1.pl hF (ow hr).1).1) ⟨r, hr, hrl, rfl, hsub q p4⟩
            have := hsub.le
            exact hne (cF_inj hF hc hr p1 (by omega))
          refine smF_one p1 (by rw [pb_true.mpr htop, p4]; rfl) (fun p' hp' hne => ?_)
          cases ht : pb (top p') with
          | false => rfl
          | true =>
            rw [Bool.true_and]
            cases hb : (cF n S c p').testBit q with
            | false => rfl
            | true =>
              exfalso
              have ht1 := pb_true.mp ht
              rcases hC.2.1.lam2 hF (ow p1).1 (ow hp').1 with z | z | z
              · exact z q p4 hb
              · have := ht1.1
                have h9 := htop.2 p' hp' (z p (ow p1).2.1) hne
                exact (h4 p' hp').mp ht1.1 h9
              · have h9 := ht1.2 p p1 (z p' (ow hp').2.1) (Ne.symm hne)
                exact (h4 p p1).mp htop.1 h9)
      rw [a2, ← cnt_sm]
      -- as many as are left
      have a3 : cnt l.testBit n + cnt (fun q => decide (q ∈ od)) n = n := by
        have := cnt_split (fun _ => true) (fun q => l.testBit q) n
        have b1 : cnt (fun i => true && l.testBit i) n = cnt l.testBit n := cnt_congr n (fun i _ => by rw [Bool.true_and])
        have b2 : cnt (fun i => true && !l.testBit i) n = cnt (fun q => decide (q ∈ od)) n := cnt_congr n (fun i hi => by
          rw [Bool.true_and]
          apply bool_iff
          rw [Bool.not_eq_true', decide_eq_true_eq]
          constructor
          · intro z
            apply Classical.byContradiction
            intro w
            rw [(h4 i hi).mpr w] at z; cases z
          · intro z
            cases hq : l.testBit i with
            | false => rfl
            | true => exact absurd z ((h4 i hi).mp hq))
        have b3 : ∀ k, cnt (fun _ => true) k = k := by
          intro k
          induction k with
          | zero => rfl
          | succ k ih => rw [cnt_succ, ih]; rfl
        rw [b1, b2, b3] at this
        exact this
      have a4 : cnt (fun q => decide (q ∈ od)) n = od.length := by
        have hf : cnt (fun q => decide (q ∈ od)) n = ((List.range n).filter (fun q => decide (q ∈ od))).length := by
          clear a1 a2 a3
          have gen : ∀ k, cnt (fun q => decide (q ∈ od)) k = ((List.range k).filter (fun q => decide (q ∈ od))).length := by
            intro k
            induction k with
            | zero => rfl
            | succ k ih =>
              rw [cnt_succ, List.range_succ, List.filter_append, List.length_append, ih]
              congr 1
              by_cases z : k ∈ od
              · rw [decide_eq_true z, List.filter_cons_of_pos (by simp [z])]; rfl
              · rw [decide_eq_false z, List.filter_cons_of_neg (by simp [z])]; rfl
          exact gen n
        rw [hf]
        have c1 := nodup_sub _ od (List.nodup_range.filter (fun q => decide (q ∈ od)) : ((List.range n).filter (fun q => decide (q ∈ od))).Nodup) (fun x hx => of_decide_eq_true (List.mem_filter.mp hx).2)
        have c2 := nodup_sub od _ h1 (fun x hx => List.mem_filter.mpr ⟨List.mem_range.mpr (h2 x hx), decide_eq_true hx⟩)
        omega
      omega
    rw [e1]
    show (m + 1) * fcN m = fcN m * (m + 1)
    exact Nat.mul_comm _ _
theorem odI0 (hn : n ≤ 5) : odI n (2 ^ n - 1) [] n := ⟨List.nodup_nil, (fun p hp => by cases hp), by have : 1 ≤ 2 ^ n := Nat.one_le_two_pow; omega, fun p hp => by rw [whole_tb hp]; simp, by simp⟩
/-- products over rows with the same members -/
def pdL (f : Nat → Nat) : List Nat → Nat
  | [] => 1
  | x :: l => f x * pdL f l
theorem pdL_erase (f : Nat → Nat) {x : Nat} : ∀ l : List Nat, x ∈ l → pdL f l = f x * pdL f (l.erase x)
  | [], h => by cases h
  | z :: l, h => by
    by_cases e : z = x
    · subst e
      rw [List.erase_cons_head]
      rfl
    · have hx : x ∈ l := by
        rcases List.mem_cons.mp h with q | q
        · exact absurd q.symm e
        · exact q
      rw [List.erase_cons_tail (by simpa using e)]
      show f z * pdL f l = f x * (f z * pdL f (l.erase x))
      rw [pdL_erase f l hx, Nat.mul_left_comm]
theorem pdL_same (f : Nat → Nat) : ∀ (l m : List Nat), l.Nodup → m.Nodup → (∀ x, x ∈ l ↔ x ∈ m) → pdL f l = pdL f m
  | [], m, _, _, h => by
    have : m = [] := by
      cases m with
      | nil => rfl
      | cons a t => have := (h a).mpr List.mem_cons_self; cases this
    rw [this]
  | x :: l, m, h1, h2, h => by
    obtain ⟨n1, n2⟩ := List.nodup_cons.mp h1
    have hx := (h x).mp List.mem_cons_self
    rw [pdL_erase f m hx]
    show f x * pdL f l = _
    rw [pdL_same f l (m.erase x) n2 (h2.erase x) (fun u => by
      rw [h2.mem_erase_iff, ← h u, List.mem_cons]
      constructor
      · intro hu; exact ⟨fun e => n1 (e ▸ hu), Or.inr hu⟩
      · rintro ⟨a, b | b⟩
        · exact absurd b a
        · exact b)]
theorem pdL_map (f C : Nat → Nat) : ∀ k, pdF (fun p => f (C p)) k = pdL f ((List.range k).map C)
  | 0 => rfl
  | k + 1 => by
    rw [pdF_succ, pdL_map f C k, List.range_succ, List.map_append]
    have app : ∀ (l : List Nat) (z : Nat), pdL f (l ++ [z]) = pdL f l * f z := by
      intro l z
      induction l with
      | nil => show f z * 1 = 1 * f z; omega
      | cons a l ih => show f a * pdL f (l ++ [z]) = f a * pdL f l * f z; rw [ih, Nat.mul_assoc]
    exact (app _ _).symm
theorem szN_pd : ∀ (y : List Nat) (a : Nat), szN a y = a * pdL pc y
  | [], a => by show a = a * 1; omega
  | t :: y, a => by rw [szN_cons, szN_pd y]; show a * pc t * pdL pc y = a * (pc t * pdL pc y); rw [Nat.mul_assoc]
theorem pc_W : ∀ n, n ≤ 5 → pc (2 ^ n - 1) = n := by decide +kernel
theorem or_num (hF : Fam n S) {c : Nat} (hc : c < (cornS n S).length) : orN n S c * szN n (crL n S c) = fcN n := by
  have hn := hF.2.1
  have hn2 := hF.1
  have hC := crL_C hF hc
  have hg : gdL n S c [] := fun i p hi => by simp at hi
  have key := orF_good hF hc n (2 ^ n - 1) [] (odI0 hn) hg
  have e1 : pdF (prF n S c (2 ^ n - 1)) n = pdF (fun p => pc (cF n S c p)) n := pdF_congr n (fun p hp => by unfold prF; rw [if_pos (whole_tb hp)])
  have hW : (2 ^ n - 1) ∉ crL n S c := fun q => by have := (hC.2.1.1 _ q).1; omega
  have e2 : pdL pc ((List.range n).map (cF n S c)) = pdL pc ((2 ^ n - 1) :: crL n S c) := by
    refine pdL_same pc _ _ ?_ (List.nodup_cons.mpr ⟨hW, hC.1.nodup⟩) (fun x => ?_)
    · refine List.Pairwise.map _ ?_ (List.pairwise_lt_range (n := n) |>.imp_of_mem (S := fun a b => cF n S c a ≠ cF n S c b) (fun {a b} ha hb hab e => ?_))
      · exact fun a b h => h
      · have := cF_inj hF hc (List.mem_range.mp ha) (List.mem_range.mp hb) e
        omega
    · rw [List.mem_map, List.mem_cons]
      constructor
      · rintro ⟨p, hp, rfl⟩
        rcases (cF_own hF hc (List.mem_range.mp hp)).1 with q | q
        · exact Or.inr q
        · exact Or.inl q
      · intro hx
        obtain ⟨p, hp, op⟩ := own_pt hF hC.2.1 (t := x) (by
          rcases hx with q | q
          · exact Or.inr q
          · exact Or.inl q)
        exact ⟨p, List.mem_range.mpr hp, (op.uniq (cF_own hF hc hp)).symm⟩
  rw [e1, pdL_map, e2] at key
  rw [szN_pd]
  have : pdL pc ((2 ^ n - 1) :: crL n S c) = n * pdL pc (crL n S c) := by
    show pc (2 ^ n - 1) * _ = _
    rw [pc_W n hn]
  rw [this] at key
  exact key
theorem or_eq (hF : Fam n S) {c : Nat} (hc : c < (cornS n S).length) : fcN n / szN n (crL n S c) = orN n S c := by
  have hn2 := hF.1
  obtain ⟨k1, k2, k3, k4, k5⟩ := crL_ok hF.2.1 hn2 hc
  have hsz := szN_pos (crL n S c) n (by omega) k3.2
  rw [← or_num hF hc]
  exact Nat.mul_div_cancel _ hsz.1
theorem or_all (hF : Fam n S) : ∀ (m l : Nat) (od : List Nat), odI n l od m → smF (fun c => orF n S c m l od) (cornS n S).length ≤ fcN m
  | 0, l, od, h => by
    show smF (fun c => (decide (leadsN n S od = some c)).toNat) _ ≤ 1
    cases hl : leadsN n S od with
    | none =>
      rw [smF_zero _ (fun c _ => by rw [decide_eq_false (by simp)]; rfl)]
      omega
    | some e =>
      by_cases he : e < (cornS n S).length
      · rw [smF_one he (by rw [decide_eq_true rfl]; rfl) (fun q _ hne => by rw [decide_eq_false (by simp; exact Ne.symm hne)]; rfl)]
        omega
      · rw [smF_zero _ (fun c hc => by rw [decide_eq_false (by simp; omega)]; rfl)]
        omega
  | m + 1, l, od, h => by
    have hn := hF.2.1
    have e1 : smF (fun c => orF n S c (m + 1) l od) (cornS n S).length = smF (fun p => smF (fun c => if l.testBit p = true then orF n S c m (clrB l p) (od ++ [p]) else 0) (cornS n S).length) n := by
      rw [← smF_swap (fun c p => if l.testBit p = true then orF n S c m (clrB l p) (od ++ [p]) else 0) (cornS n S).length n]
      exact smF_congr _ (fun c _ => orF_succ2 c m l od)
    rw [e1]
    have e2 : smF (fun p => smF (fun c => if l.testBit p = true then orF n S c m (clrB l p) (od ++ [p]) else 0) (cornS n S).length) n ≤ smF (fun p => (l.testBit p).toNat * fcN m) n := smF_le1 n (fun p hp => by
      cases hl : l.testBit p with
      | false =>
        rw [smF_zero _ (fun c _ => by rw [if_neg (by decide)])]
        omega
      | true =>
        have := or_all hF m (clrB l p) (od ++ [p]) (h.step hn hp hl)
        rw [smF_congr _ (fun c _ => by rw [if_pos rfl])]
        show _ ≤ 1 * fcN m
        omega)
    refine Nat.le_trans e2 ?_
    rw [smF_mul, ← cnt_sm]
    show _ ≤ fcN m * (m + 1)
    rw [Nat.mul_comm (fcN m)]
    refine Nat.mul_le_mul_right _ ?_
    -- as many as are left
    have h4 := h.2.2.2.1
    have hle : cnt l.testBit n ≤ m + 1 := by
      have hf : cnt l.testBit n = ((List.range n).filter (fun q => l.testBit q)).length := by
        have gen : ∀ k, cnt l.testBit k = ((List.range k).filter (fun q => l.testBit q)).length := by
          intro k
          induction k with
          | zero => rfl
          | succ k ih =>
            rw [cnt_succ, List.range_succ, List.filter_append, List.length_append, ih]
            congr 1
            cases z : l.testBit k with
            | true => rw [List.filter_cons_of_pos (by simp [z])]; rfl
            | false => rw [List.filter_cons_of_neg (by simp [z])]; rfl
        exact gen n
      rw [hf]
      have hd : (((List.range n).filter (fun q => l.testBit q)) ++ od).Nodup := List.nodup_append.mpr ⟨List.nodup_range.filter _, h.1, fun a ha b hb e => by
        subst e
        have := List.mem_filter.mp ha
        exact (h4 a (List.mem_range.mp this.1)).mp this.2 hb⟩
      have := nodup_lt n _ hd (fun u hu => by
        rcases List.mem_append.mp hu with q | q
        · exact List.mem_range.mp (List.mem_filter.mp q).1
        · exact h.2.1 u q)
      rw [List.length_append] at this
      have := h.2.2.2.2
      omega
    exact hle
theorem c120_of (hF : Fam n S) : c120 n S := by
  have hn := hF.2.1
  have h1 := or_all hF n (2 ^ n - 1) [] (odI0 hn)
  have h2 : (cornS n S).length ≤ smF (fun c => orF n S c n (2 ^ n - 1) []) (cornS n S).length := by
    have a : smF (fun _ => 1) (cornS n S).length = (cornS n S).length := by
      have : ∀ k, smF (fun _ => 1) k = k := by
        intro k
        induction k with
        | zero => rfl
        | succ k ih => rw [smF_succ, ih]
      exact this _
    have b := smF_le1 (f := fun _ => 1) (g := fun c => orF n S c n (2 ^ n - 1) []) (cornS n S).length (fun c hc => by
      have hm := or_num hF hc
      have hp := (fcN_b n hn).1
      have : orN n S c ≠ 0 := fun z => by rw [z, Nat.zero_mul] at hm; omega
      show 1 ≤ orN n S c
      omega)
    omega
  have h3 := (fcN_b n hn).2
  unfold c120
  rw [← cornS_len]
  omega
/-- all that the class's contracts ask of a family -/
theorem FG_of (hF : Fam n S) : FG n S := by
  obtain ⟨f1, f2⟩ := far_of hF (joined hF)
  have hc := c120_of hF
  have hN : (cornS n S).length ≤ 120 := by rw [cornS_len]; exact hc
  refine ⟨hF, hc, flU_of hF, f1, by omega, corners_1 hF, fun c hc => or_eq hF hc, fun s hs hsW => ?_⟩
  have hst : Nst n S (· ∈ [s]) := ((nt_nst hF Nst.nil hs hsW).mp ⟨(fun t ht => by
    rw [chM_nil] at ht
    have : els (nI 0) = [] := els_nil.mpr nI_0
    rw [this] at ht; cases ht), fun ⟨y, y0, yA, _⟩ => by
    apply y0
    rw [← yA]
    apply b_ext
    intro i hi
    unfold apM
    rw [b_and, maskOf_bt _ hi, chM_bt hi, b_0]
    simp⟩).congr (fun u => by simp)
  obtain ⟨y, y1, y2⟩ := corner_of hF hst (by simp)
  obtain ⟨c, c1, c2⟩ := crL_ix y1
  have s32 := bt_lt hs
  have gen : ∀ (l : List Int32) (i k : Nat) (x : Int32), l[k]? = some x → x &&& (nI 1 <<< (nI s &&& 31)) = nI 1 <<< (nI s &&& 31) → hvF (nI 1 <<< (nI s &&& 31)) l i ≠ none := by
    intro l
    induction l with
    | nil => intro i k x hk; simp at hk
    | cons z l ih =>
      intro i k x hk hx
      rw [hvF_cons]
      split
      · simp
      · rename_i hq
        cases k with
        | zero =>
          have : z = x := by simpa using hk
          rw [this] at hq
          exact absurd hx hq
        | succ k => exact ih (i + 1) k x (by simpa using hk) hx
  refine gen _ 0 c _ (cornM_get c1) ?_
  apply b_ext
  intro i hi
  rw [b_and, one_bt s32 hi, chM_bt hi]
  by_cases e : i = s
  · subst e
    rw [c2, decide_eq_true (y2 i (by simp))]; rfl
  · rw [decide_eq_false e, Bool.and_false]
end
