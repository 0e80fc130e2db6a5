/-! THE CLASS, 15: Body: places; the smallest set with a point -/
theorem gnL_lam {n : Nat} {S : Int32} : ∀ (m s : Nat) (ns y : List Nat), ns.Pairwise lam → y ∈ gnL n S m s ns → y.Pairwise lam
  | 0, s, ns, y, _, hy => by simp [gnL] at hy
  | m + 1, s, ns, y, hl, hy => by
    rw [gnL_nd, List.mem_append] at hy
    rcases hy with hy | hy
    · split at hy
      · rename_i hq
        rw [Bool.and_eq_true, pb_true] at hq
        have hl2 : (ns ++ [s]).Pairwise lam := List.pairwise_append.mpr ⟨hl, List.pairwise_singleton _ _, fun a ha b hb2 => by
          have : b = s := by simpa using hb2
          rw [this]; exact hq.2.1 a ha⟩
        unfold ndL at hy
        rcases List.mem_cons.mp hy with e | e
        · rw [e]; exact hl2
        · split at e
          · cases e
          · exact gnL_lam m (s + 1) _ y hl2 e
      · cases hy
    · exact gnL_lam m (s + 1) ns y hl hy
theorem allN_lam {n : Nat} {S : Int32} {y : List Nat} (hy : y ∈ allN n S) : y.Pairwise lam := by
  unfold allN ndL at hy
  rcases List.mem_cons.mp hy with e | e
  · rw [e]; exact List.Pairwise.nil
  · split at e
    · cases e
    · exact gnL_lam _ _ _ y List.Pairwise.nil e
theorem pc_whole : ∀ n, n ≤ 5 → ∀ u, u < 2 ^ n - 1 → pc u < pc (2 ^ n - 1) := by decide +kernel
theorem arF_spec {A : Int32} {p W : Nat} (hpc : ∀ u, u < W → pc u < pc W) (hch : ∀ u v, u < v → v < W → bt A u = true → bt A v = true → u.testBit p = true → v.testBit p = true → pc u ≤ pc v) : ∀ (m s f : Nat), s + m = W → 1 ≤ s → ((f = W ∧ ∀ u, 1 ≤ u → u < s → ¬ (bt A u = true ∧ u.testBit p = true)) ∨ (bt A f = true ∧ f.testBit p = true ∧ f < s ∧ ∀ u, 1 ≤ u → u < s → bt A u = true → u.testBit p = true → f ≤ u)) → (arF A p m s f = W ∨ (bt A (arF A p m s f) = true ∧ (arF A p m s f).testBit p = true ∧ arF A p m s f < W)) ∧ ∀ u, 1 ≤ u → u < W → bt A u = true → u.testBit p = true → arF A p m s f ≤ u
  | 0, s, f, hs, _, hI => by
    have : s = W := by omega
    subst this
    show (f = s ∨ _) ∧ ∀ u, _ → _ → _ → _ → f ≤ u
    rcases hI with ⟨h1, h2⟩ | ⟨h1, h2, h3, h4⟩
    · exact ⟨Or.inl h1, fun u u1 u2 u3 u4 => absurd ⟨u3, u4⟩ (h2 u u1 u2)⟩
    · exact ⟨Or.inr ⟨h1, h2, h3⟩, h4⟩
  | m + 1, s, f, hs, hs1, hI => by
    rw [arF_succ]
    refine arF_spec hpc hch m (s + 1) _ (by omega) (by omega) ?_
    rcases hI with ⟨h1, h2⟩ | ⟨h1, h2, h3, h4⟩
    · split
      · rename_i hq
        simp only [Bool.and_eq_true] at hq
        refine Or.inr ⟨hq.1.1, hq.1.2, by omega, fun u u1 u2 u3 u4 => ?_⟩
        rcases Nat.lt_or_ge u s with q | q
        · exact absurd ⟨u3, u4⟩ (h2 u u1 q)
        · exact q
      · rename_i hq
        refine Or.inl ⟨h1, fun u u1 u2 u3 => ?_⟩
        rcases Nat.lt_or_ge u s with q | q
        · exact h2 u u1 q u3
        · have : u = s := by omega
          subst this
          apply hq
          rw [u3.1, u3.2, h1, decide_eq_true (hpc u (by omega))]; rfl
    · have hk : ¬ ((bt A s && s.testBit p && decide (pc s < pc f)) = true) := by
        intro hq
        simp only [Bool.and_eq_true, decide_eq_true_eq] at hq
        have := hch f s h3 (by omega) h1 hq.1.1 h2 hq.1.2
        omega
      rw [if_neg hk]
      refine Or.inr ⟨h1, h2, by omega, fun u u1 u2 u3 u4 => ?_⟩
      rcases Nat.lt_or_ge u s with q | q
      · exact h4 u u1 q u3 u4
      · omega
/-- a list of sets that lie in each other or apart -/
def lamL (n : Nat) (y : List Nat) : Prop := y.Pairwise (fun a b => a < b) ∧ y.Pairwise lam ∧ ∀ t ∈ y, 1 ≤ t ∧ t < 2 ^ n - 1
theorem lamL.lam2 {n : Nat} {y : List Nat} (h : lamL n y) {u v : Nat} (hu : u ∈ y) (hv : v ∈ y) (huv : u < v) : lam u v := by
  obtain ⟨i, hi, ei⟩ := List.mem_iff_getElem.mp hu
  obtain ⟨j, hj, ej⟩ := List.mem_iff_getElem.mp hv
  rcases Nat.lt_trichotomy i j with q | q | q
  · have := List.pairwise_iff_getElem.mp h.2.1 i j hi hj q
    rw [ei, ej] at this
    exact this
  · subst q; rw [ei] at ej; omega
  · have := List.pairwise_iff_getElem.mp h.1 j i hj hi q
    rw [ei, ej] at this
    omega
theorem lamL.chain {n : Nat} {y : List Nat} (h : lamL n y) {u v p : Nat} (hu : u ∈ y) (hv : v ∈ y) (huv : u < v) (pu : u.testBit p = true) (pv : v.testBit p = true) : u &&& v = u := by
  rcases h.lam2 hu hv huv with q | q | q
  · exact absurd (dis_iff.mp q p pu pv) id
  · exact q
  · have := sub_le (show v &&& u = v by rw [Nat.and_comm]; exact q)
    omega
theorem around_spec {n : Nat} (hn : n ≤ 5) {y : List Nat} (h : lamL n y) (p : Nat) : (aroundN n (chM y) p = 2 ^ n - 1 ∨ (aroundN n (chM y) p ∈ y ∧ (aroundN n (chM y) p).testBit p = true)) ∧ aroundN n (chM y) p ≤ 2 ^ n - 1 ∧ ∀ u ∈ y, u.testBit p = true → aroundN n (chM y) p ≤ u := by
  have p5 := pow5 hn
  have p1 : 1 ≤ 2 ^ n := Nat.one_le_two_pow
  have hm : ∀ u, u < 32 → (bt (chM y) u = true ↔ u ∈ y) := fun u hu => by rw [chM_bt hu, decide_eq_true_eq]
  unfold aroundN
  rcases Nat.lt_or_ge 1 (2 ^ n) with c | c
  · have key := arF_spec (A := chM y) (p := p) (pc_whole n hn) (fun u v huv hv a1 a2 a3 a4 => ?_) (2 ^ n - 2) 1 (2 ^ n - 1) (by omega) (Nat.le_refl 1) (Or.inl ⟨rfl, fun u u1 u2 => by omega⟩)
    · obtain ⟨k1, k2⟩ := key
      refine ⟨?_, ?_, fun u hu pu => ?_⟩
      · rcases k1 with k | k
        · exact Or.inl k
        · exact Or.inr ⟨(hm _ (by omega)).mp k.1, k.2.1⟩
      · rcases k1 with k | k <;> omega
      · have := h.2.2 u hu
        exact k2 u this.1 this.2 ((hm u (by omega)).mpr hu) pu
    · have := h.chain ((hm u (by omega)).mp a1) ((hm v (by omega)).mp a2) huv a3 a4
      exact pc_mono u (by omega) v (by omega) (fun q _ hq => (sub_iff.mp this) q hq)
  · have : 2 ^ n = 1 := by omega
    rw [this]
    refine ⟨Or.inl rfl, Nat.le_refl _, fun u hu => ?_⟩
    have := h.2.2 u hu
    omega
theorem whole_tb {n p : Nat} (hp : p < n) : (2 ^ n - 1).testBit p = true := by rw [Nat.testBit_two_pow_sub_one, decide_eq_true hp]
theorem around_lt {n : Nat} (hn : n ≤ 5) {y : List Nat} (h : lamL n y) (p : Nat) : aroundN n (chM y) p < 32 := by
  have p5 := pow5 hn
  have := (around_spec hn h p).2.1
  have p1 : 1 ≤ 2 ^ n := Nat.one_le_two_pow
  omega
theorem around_els {n : Nat} (hn : n ≤ 5) {y : List Nat} (h : lamL n y) {p : Nat} (hp : p < n) : ∃ l, els ((chM y ||| (nI 1 <<< (nI (2 ^ n - 1) &&& 31))) &&& havF p) = aroundN n (chM y) p :: l := by
  have p5 := pow5 hn
  have p1 : 1 ≤ 2 ^ n := Nat.one_le_two_pow
  obtain ⟨s1, s2, s3⟩ := around_spec hn h p
  have hx : ∀ i, i < 32 → (bt ((chM y ||| (nI 1 <<< (nI (2 ^ n - 1) &&& 31))) &&& havF p) i = true ↔ (i ∈ y ∨ i = 2 ^ n - 1) ∧ i.testBit p = true) := by
    intro i hi
    rw [b_and, b_or, chM_bt hi, one_bt (by omega) hi, hav_bt p (by omega) i hi, Bool.and_eq_true, Bool.or_eq_true, decide_eq_true_eq, decide_eq_true_eq]
  generalize (chM y ||| (nI 1 <<< (nI (2 ^ n - 1) &&& 31))) &&& havF p = x at hx ⊢
  have h0 : bt x (aroundN n (chM y) p) = true := by
    rw [hx _ (by omega)]
    rcases s1 with q | q
    · exact ⟨Or.inr q, by rw [q]; exact whole_tb hp⟩
    · exact ⟨Or.inl q.1, q.2⟩
  cases he : els x with
  | nil =>
    have : aroundN n (chM y) p ∈ els x := els_mem.mpr ⟨by omega, h0⟩
    rw [he] at this; cases this
  | cons t l =>
    obtain ⟨t1, t2, t3, -⟩ := els_cons he
    have a : t = aroundN n (chM y) p := by
      rcases Nat.lt_trichotomy t (aroundN n (chM y) p) with q | q | q
      · rw [hx t t1] at t2
        rcases t2.1 with z | z
        · have := s3 t z t2.2
          omega
        · omega
      · exact q
      · have := t3 _ q
        rw [h0] at this; cases this
    exact ⟨l, by rw [a]⟩
theorem stdN_lt (S : Int32) (u p : Nat) : stdN S u p < 32 := by
  unfold stdN
  have e : cnt (fun _ => true) 32 = 32 := by decide
  rw [← e]
  refine cnt_lt 32 (fun i _ _ => rfl) ⟨0, by omega, rfl, ?_⟩
  unfold stB
  rw [Nat.zero_testBit, Bool.and_false]
theorem rowF_lt (n : Nat) (S : Int32) (x : List Nat) (p : Nat) : rowF n S x p < 32 := by
  unfold rowF
  split
  · exact stdN_lt _ _ _
  · omega
theorem pkN_succ (r : Nat → Nat) (p : Nat) : pkN r (p + 1) = 32 * pkN r p + r p := rfl
theorem pkN_lt {r : Nat → Nat} (hr : ∀ p, r p < 32) : ∀ p, pkN r p < 32 ^ p
  | 0 => Nat.one_pos
  | p + 1 => by
    have ih := pkN_lt hr p
    have := hr p
    rw [pkN_succ, Nat.pow_succ]
    omega
theorem pk_dig {r : Nat → Nat} (hr : ∀ p, r p < 32) : ∀ (n p : Nat), p < n → pkN r n / 32 ^ (n - 1 - p) % 32 = r p
  | 0, p, h => by omega
  | n + 1, p, h => by
    have hrn := hr n
    by_cases e : p = n
    · subst e
      rw [show p + 1 - 1 - p = 0 by omega, Nat.pow_zero, Nat.div_one, pkN_succ]
      omega
    · have ih := pk_dig hr n p (by omega)
      rw [show n + 1 - 1 - p = (n - 1 - p) + 1 by omega, Nat.pow_succ, Nat.mul_comm, ← Nat.div_div_eq_div_mul, pkN_succ, show (32 * pkN r n + r n) / 32 = pkN r n by omega]
      exact ih
theorem pk_inj {r r' : Nat → Nat} (hr : ∀ p, r p < 32) (hr' : ∀ p, r' p < 32) : ∀ n, pkN r n = pkN r' n → ∀ p, p < n → r p = r' p := by
  intro n e p hp
  rw [← pk_dig hr n p hp, ← pk_dig hr' n p hp, e]
theorem pk_congr {r r' : Nat → Nat} : ∀ n, (∀ p, p < n → r p = r' p) → pkN r n = pkN r' n
  | 0, _ => rfl
  | n + 1, h => by rw [pkN_succ, pkN_succ, pk_congr n (fun p hp => h p (by omega)), h n (by omega)]
theorem ah_pk {x y : Nat → Nat} (hx : ∀ p, x p < 32) (hy : ∀ p, y p < 32) : ∀ (m p : Nat), pkN x p = pkN y p → (ahF x y m p = true ↔ pkN x (p + m) < pkN y (p + m))
  | 0, p, h => by
    show false = true ↔ _
    rw [Nat.add_zero, h]
    simp
  | m + 1, p, h => by
    rw [ahF_succ]
    by_cases c : x p = y p
    · rw [if_pos c, ah_pk hx hy m (p + 1) (by rw [pkN_succ, pkN_succ, h, c]), show p + 1 + m = p + (m + 1) by omega]
    · rw [if_neg c, decide_eq_true_eq]
      have gen : ∀ (a b : Nat → Nat), (∀ p, a p < 32) → (∀ p, b p < 32) → ∀ j k, pkN a k < pkN b k → pkN a (k + j) < pkN b (k + j) := by
        intro a b ha hb j
        induction j with
        | zero => intro k hk; exact hk
        | succ j ih =>
          intro k hk
          have := ih k hk
          have h1 := ha (k + j)
          rw [show k + (j + 1) = k + j + 1 by omega, pkN_succ, pkN_succ]
          omega
      have e : p + (m + 1) = (p + 1) + m := by omega
      rw [e]
      have hx1 := hx p
      have hy1 := hy p
      rcases Nat.lt_or_gt_of_ne c with q | q
      · refine ⟨fun _ => gen x y hx hy m (p + 1) (by rw [pkN_succ, pkN_succ]; omega), fun _ => q⟩
      · refine ⟨fun z => by omega, fun z => ?_⟩
        have := gen y x hy hx m (p + 1) (by rw [pkN_succ, pkN_succ]; omega)
        omega
theorem ahL_pk (n : Nat) (S : Int32) (x y : List Nat) : ahL n S x y = true ↔ pkN (rowF n S x) n < pkN (rowF n S y) n := by
  unfold ahL
  have := ah_pk (rowF_lt n S x) (rowF_lt n S y) n 0 rfl
  rw [Nat.zero_add] at this
  exact this
section
variable {h h' : AH} {o fam n : Nat} {S Lm : Int32} {b : BoS}
theorem sp_BO_smallestWith (d : Nat) (hB : BX h o fam n S Lm b) (hn : n ≤ 5) {y : List Nat} (hy : lamL n y) {p : Nat} (hp : p < n) : Cl (d + 2) 70 [.ref o, .int (chM y), .int (nI p)] h (some (.int (nI (aroundN n (chM y) p)))) h := by
  have kC9 := co_BO_smallestWith
  refine Cl_of kC9 rfl rfl ?_
  obtain ⟨l, hl⟩ := around_els hn hy hp
  repeat (refine R_s kC9 rfl rfl ?_)
  refine R_get kC9 rfl (hB.ob) rfl ?_
  refine R_cv kC9 rfl rfl rfl rfl hB.fc.2 hB.fc.1 (sp_FA_whole (d + 1) hB.fc hn) ?_
  repeat (refine R_s kC9 rfl rfl ?_)
  refine R_st kC9 rfl ?_
  repeat (refine R_s kC9 rfl rfl ?_)
  refine R_ild kC9 rfl hB.hv (k := p) rfl (by omega) (by omega) ?_
  repeat (refine R_s kC9 rfl rfl ?_)
  refine R_cs kC9 rfl rfl rfl rfl (sp_NB_leastOf d hl) ?_
  exact R_ri kC9 rfl ⟨rfl, rfl⟩
theorem shl_or {a c : Nat} (hc : c < 32) : (nI a <<< (nI 5 &&& 31)) ||| nI c = nI (32 * a + c) := by
  rw [nI_shl (by omega), nx_or, ← Nat.shiftLeft_add_eq_or_of_lt (show c < 2 ^ 5 from hc), Nat.shiftLeft_eq]
  congr 1
  omega
theorem lc_placeOf (d : Nat) (hB : BX h o fam n S Lm b) (hn : n ≤ 5) (hb0 : bt S 0 = false) {y : List Nat} (hy : lamL n y) : ∀ (m p : Nat), p + m = n → R (d + 3) 69 4 [some (.ref o), some (.int (chM y)), some (.int (nI (pkN (rowF n S y) p))), some (.int (nI p))] [] h (fun r2 h2 => r2 = some (.int (nI (pkN (rowF n S y) n))) ∧ h2 = h) := by
  have kC9 := co_BO_placeOf
  intro m
  induction m with
  | zero =>
    intro p hp
    have : p = n := by omega
    subst this
    repeat (refine R_s kC9 rfl rfl ?_)
    refine R_get kC9 rfl (hB.ob) rfl ?_
    refine R_get kC9 rfl (hB.fc.2) rfl ?_
    refine R_ge kC9 rfl (rfl) (rfl) (by omega) (by omega) (fun hc => ?_) (fun hc => ?_)
    · repeat (refine R_s kC9 rfl rfl ?_)
      exact R_ri kC9 rfl ⟨rfl, rfl⟩
    · omega
  | succ m ih =>
    intro p hp
    repeat (refine R_s kC9 rfl rfl ?_)
    refine R_get kC9 rfl (hB.ob) rfl ?_
    refine R_get kC9 rfl (hB.fc.2) rfl ?_
    refine R_ge kC9 rfl (rfl) (rfl) (by omega) (by omega) (fun hc => ?_) (fun hc => ?_)
    · omega
    · repeat (refine R_s kC9 rfl rfl ?_)
      refine R_get kC9 rfl (hB.ob) rfl ?_
      repeat (refine R_s kC9 rfl rfl ?_)
      refine R_cv kC9 rfl rfl rfl rfl hB.ob hB.o3 (sp_BO_smallestWith d hB hn hy hc) ?_
      repeat (refine R_s kC9 rfl rfl ?_)
      refine R_cv kC9 rfl rfl rfl rfl hB.fc.2 hB.fc.1 (sp_FA_countWith (d + 1) hB.fc hB.hv hb0 (around_lt hn hy p) (by omega)) ?_
      repeat (refine R_s kC9 rfl rfl ?_)
      refine R_g kC9 rfl ?_
      refine (show R (d + 3) 69 4 [some (.ref o), some (.int (chM y)), some (.int ((nI (pkN (rowF n S y) p) <<< (nI 5 &&& 31)) ||| nI (stdN S (aroundN n (chM y) p) p))), some (.int (nI p + nI 1))] [] h _ from ?_)
      rw [shl_or (stdN_lt _ _ _), nI_add]
      have e : 32 * pkN (rowF n S y) p + stdN S (aroundN n (chM y) p) p = pkN (rowF n S y) (p + 1) := by
        rw [pkN_succ]
        congr 1
        unfold rowF
        rw [if_pos hc]
      rw [e]
      exact ih (p + 1) (by omega)
theorem sp_BO_placeOf (d : Nat) (hB : BX h o fam n S Lm b) (hn : n ≤ 5) (hb0 : bt S 0 = false) {y : List Nat} (hy : lamL n y) : Cl (d + 3) 69 [.ref o, .int (chM y)] h (some (.int (nI (pkN (rowF n S y) n)))) h := by
  have kC9 := co_BO_placeOf
  refine Cl_of kC9 rfl rfl ?_
  iterate 4 (refine R_s kC9 rfl rfl ?_)
  exact lc_placeOf d hB hn hb0 hy n 0 (by omega)
theorem sp_BO_atOf (d : Nat) (hB : BX h o fam n S Lm b) (hn : n ≤ 5) {r : Nat → Nat} (hr : ∀ p, r p < 32) {p : Nat} (hp : p < n) : Cl d 72 [.ref o, .int (nI (pkN r n)), .int (nI p)] h (some (.int (nI (r p)))) h := by
  have kC9 := co_BO_atOf
  refine Cl_of kC9 rfl rfl ?_
  have hl := pkN_lt hr n
  have hl2 : 32 ^ n ≤ 32 ^ 5 := Nat.pow_le_pow_right (by omega) hn
  repeat (refine R_s kC9 rfl rfl ?_)
  refine R_get kC9 rfl (hB.ob) rfl ?_
  refine R_get kC9 rfl (hB.fc.2) rfl ?_
  repeat (refine R_s kC9 rfl rfl ?_)
  refine R_ri kC9 rfl ⟨ri_eq ?_, rfl⟩
  refine (show (nI (pkN r n) >>> ((nI 5 * (nI n - nI 1 - nI p)) &&& 31)) &&& nI 31 = _ from ?_)
  rw [pk_sub (by omega), pk_sub (by omega), pk_mul, nI_shr (by omega) (by omega), nx_and, Nat.shiftRight_eq_div_pow, Nat.pow_mul, show (2 : Nat) ^ 5 = 32 by rfl, show (31 : Nat) = 2 ^ 5 - 1 by rfl, Nat.and_two_pow_sub_one_eq_mod, show (2 : Nat) ^ 5 = 32 by rfl, pk_dig hr n p hp]
theorem ten_f : ∀ p, p < 5 → tenF p = nI (10 ^ p) := by decide +kernel
theorem wS_succ2 (r : Nat → Nat) (p : Nat) : wS r (p + 1) = wS r p + 10 ^ p * r p := rfl
theorem lc_worthAt (d : Nat) (hB : BX h o fam n S Lm b) (hn : n ≤ 5) {r : Nat → Nat} (hr : ∀ p, r p < 32) : ∀ (m p : Nat), p + m = n → R (d + 1) 73 4 [some (.ref o), some (.int (nI (pkN r n))), some (.int (nI (wS r p))), some (.int (nI p))] [] h (fun r2 h2 => r2 = some (.int (nI (wS r n))) ∧ h2 = h) := by
  have kC9 := co_BO_worthAt
  intro m
  induction m with
  | zero =>
    intro p hp
    have : p = n := by omega
    subst this
    repeat (refine R_s kC9 rfl rfl ?_)
    refine R_get kC9 rfl (hB.ob) rfl ?_
    refine R_get kC9 rfl (hB.fc.2) rfl ?_
    refine R_ge kC9 rfl (rfl) (rfl) (by omega) (by omega) (fun hc => ?_) (fun hc => ?_)
    · repeat (refine R_s kC9 rfl rfl ?_)
      exact R_ri kC9 rfl ⟨rfl, rfl⟩
    · omega
  | succ m ih =>
    intro p hp
    repeat (refine R_s kC9 rfl rfl ?_)
    refine R_get kC9 rfl (hB.ob) rfl ?_
    refine R_get kC9 rfl (hB.fc.2) rfl ?_
    refine R_ge kC9 rfl (rfl) (rfl) (by omega) (by omega) (fun hc => ?_) (fun hc => ?_)
    · omega
    · repeat (refine R_s kC9 rfl rfl ?_)
      refine R_st kC9 rfl ?_
      refine R_alen kC9 rfl hB.tn (by omega) ?_
      refine R_ge kC9 rfl rfl rfl (by omega) (by omega) (fun q => by omega) (fun _ => ?_)
      repeat (refine R_s kC9 rfl rfl ?_)
      refine R_cv kC9 rfl rfl rfl rfl hB.ob hB.o3 (sp_BO_atOf d hB hn hr hc) ?_
      repeat (refine R_s kC9 rfl rfl ?_)
      refine R_st kC9 rfl ?_
      repeat (refine R_s kC9 rfl rfl ?_)
      refine R_ild kC9 rfl hB.tn (k := p) rfl (by omega) (by omega) ?_
      rw [ten_f p (by omega)]
      repeat (refine R_s kC9 rfl rfl ?_)
      refine R_g kC9 rfl ?_
      refine (show R (d + 1) 73 4 [some (.ref o), some (.int (nI (pkN r n))), some (.int (nI (wS r p) + nI (r p) * nI (10 ^ p))), some (.int (nI p + nI 1))] [] h _ from ?_)
      rw [pk_mul, nI_add, nI_add, Nat.mul_comm (r p), ← wS_succ2]
      exact ih (p + 1) (by omega)
theorem sp_BO_worthAt (d : Nat) (hB : BX h o fam n S Lm b) (hn : n ≤ 5) {r : Nat → Nat} (hr : ∀ p, r p < 32) : Cl (d + 1) 73 [.ref o, .int (nI (pkN r n))] h (some (.int (nI (wS r n)))) h := by
  have kC9 := co_BO_worthAt
  refine Cl_of kC9 rfl rfl ?_
  iterate 4 (refine R_s kC9 rfl rfl ?_)
  exact lc_worthAt d hB hn hr n 0 (by omega)
end
