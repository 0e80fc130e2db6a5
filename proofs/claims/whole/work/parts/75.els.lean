/-! THE CLASS, 6: masks as lists; leastOf, within, around, nthOf -/
theorem els_mem {x : Int32} {i : Nat} : i ∈ els x ↔ i < 32 ∧ bt x i = true := by
  unfold els
  rw [List.mem_filter, List.mem_range]
theorem els_sorted (x : Int32) : (els x).Pairwise (· < ·) := by
  unfold els
  exact List.pairwise_lt_range.filter _
theorem els_nodup (x : Int32) : (els x).Nodup := (els_sorted x).imp (fun h => Nat.ne_of_lt h)
theorem els_ext {x y : Int32} (h : els x = els y) : x = y := b_ext (fun i hi => by
  have : i ∈ els x ↔ i ∈ els y := by rw [h]
  rw [els_mem, els_mem] at this
  cases hx : bt x i <;> cases hy : bt y i <;> simp_all)
theorem els_nil {x : Int32} : els x = [] ↔ x = 0 := by
  constructor
  · intro h
    apply b_ext
    intro i hi
    rw [b_0]
    cases hb : bt x i with
    | false => rfl
    | true => have : i ∈ els x := els_mem.mpr ⟨hi, hb⟩; rw [h] at this; cases this
  · rintro rfl
    decide +kernel
theorem els_cons {x : Int32} {t : Nat} {l : List Nat} (h : els x = t :: l) : t < 32 ∧ bt x t = true ∧ (∀ i, i < t → bt x i = false) ∧ ∃ q, tn x = 2 ^ (t + 1) * q + 2 ^ t ∧ q < 2 ^ (31 - t) := by
  have ht : t ∈ els x := by rw [h]; exact List.mem_cons_self
  obtain ⟨t32, hb⟩ := els_mem.mp ht
  have hlow : ∀ i, i < t → bt x i = false := by
    intro i hi
    cases hb2 : bt x i with
    | false => rfl
    | true =>
      have hm : i ∈ els x := els_mem.mpr ⟨by omega, hb2⟩
      have hs := els_sorted x
      rw [h] at hm hs
      rcases List.mem_cons.mp hm with q | q
      · omega
      · have := (List.pairwise_cons.mp hs).1 i q
        omega
  refine ⟨t32, hb, hlow, tn x / 2 ^ (t + 1), ?_, ?_⟩
  · have hz : tn x % 2 ^ t = 0 := by
      apply Nat.eq_of_testBit_eq
      intro i
      rw [Nat.testBit_mod_two_pow, Nat.zero_testBit]
      by_cases q : i < t
      · rw [← tn_bt, hlow i q]; simp
      · simp [q]
    have ho : tn x / 2 ^ t % 2 = 1 := by
      rw [tn_bt, Nat.testBit_eq_decide_div_mod_eq, decide_eq_true_eq] at hb
      exact hb
    have e1 := Nat.div_add_mod (tn x) (2 ^ t)
    rw [hz, Nat.add_zero] at e1
    have e2 := Nat.div_add_mod (tn x / 2 ^ t) 2
    rw [Nat.div_div_eq_div_mul, ← Nat.pow_succ, ho] at e2
    calc tn x = 2 ^ t * (tn x / 2 ^ t) := e1.symm
      _ = 2 ^ t * (2 * (tn x / 2 ^ (t + 1)) + 1) := by rw [e2]
      _ = 2 ^ (t + 1) * (tn x / 2 ^ (t + 1)) + 2 ^ t := by rw [Nat.pow_succ, Nat.mul_add, Nat.mul_one, Nat.mul_assoc]
  · rw [Nat.div_lt_iff_lt_mul (Nat.two_pow_pos _), ← Nat.pow_add, show 31 - t + (t + 1) = 32 by omega]
    exact tn_lt x
theorem els_tail {x : Int32} {t : Nat} {l : List Nat} (h : els x = t :: l) : els (x &&& (x - nI 1)) = l := by
  obtain ⟨t32, hb, hlow, q, hq, hq2⟩ := els_cons h
  have p1 := Nat.two_pow_pos t
  have e1 : tn (x - nI 1) = 2 ^ (t + 1) * q + (2 ^ t - 1) := by
    rw [tn_sub (by rw [tn_nI (by omega), hq]; omega), tn_nI (by omega), hq]
    omega
  have e2 : tn (x &&& (x - nI 1)) = 2 ^ (t + 1) * q := by
    have l1 : 2 ^ t < 2 ^ (t + 1) := by rw [Nat.pow_succ]; omega
    rw [tn_and, e1, hq, and_dig l1 (by omega), Nat.and_self]
    have : 2 ^ t &&& (2 ^ t - 1) = 0 := by rw [Nat.and_two_pow_sub_one_eq_mod, Nat.mod_self]
    rw [this, Nat.add_zero]
  have e3 : ∀ i, i < 32 → bt (x &&& (x - nI 1)) i = (bt x i && decide (i ≠ t)) := by
    intro i hi
    have l1 : 2 ^ t < 2 ^ (t + 1) := by rw [Nat.pow_succ]; omega
    rw [tn_bt, tn_bt, e2, hq, Nat.testBit_two_pow_mul_add _ l1, show 2 ^ (t + 1) * q = 2 ^ (t + 1) * q + 0 by rfl, Nat.testBit_two_pow_mul_add _ (Nat.two_pow_pos _), Nat.testBit_two_pow, Nat.zero_testBit]
    by_cases c : i < t + 1
    · rw [if_pos c, if_pos c]
      by_cases c2 : t = i <;> simp [c2]
    · rw [if_neg c, if_neg c]
      rw [decide_eq_true (by omega), Bool.and_true]
  have e4 : els (x &&& (x - nI 1)) = (els x).filter (fun i => decide (i ≠ t)) := by
    unfold els
    rw [List.filter_filter]
    apply List.filter_congr
    intro i hi
    rw [e3 i (List.mem_range.mp hi), Bool.and_comm]
  have hn := els_nodup x
  rw [h] at hn e4
  rw [e4, List.filter_cons, if_neg (by simp)]
  apply List.filter_eq_self.mpr
  intro i hi
  have := (List.nodup_cons.mp hn).1
  exact decide_eq_true (fun e => this (e ▸ hi))
theorem and_compl {m q : Nat} (h : q < 2 ^ m) : q &&& (2 ^ m - 1 - q) = 0 := by
  apply Nat.eq_of_testBit_eq
  intro i
  rw [Nat.testBit_and, show 2 ^ m - 1 - q = 2 ^ m - (q + 1) by omega, Nat.testBit_two_pow_sub_succ h, Nat.zero_testBit]
  cases q.testBit i <;> simp
theorem els_low {x : Int32} {t : Nat} {l : List Nat} (h : els x = t :: l) : cnt (bt ((x &&& -x) - nI 1)) 32 = t := by
  obtain ⟨t32, hb, hlow, q, hq, hq2⟩ := els_cons h
  have p1 := Nat.two_pow_pos t
  have l1 : 2 ^ t < 2 ^ (t + 1) := by rw [Nat.pow_succ]; omega
  have e32 : 2 ^ (t + 1) * 2 ^ (31 - t) = 2 ^ 32 := by rw [← Nat.pow_add, show t + 1 + (31 - t) = 32 by omega]
  have en : tn (-x) = 2 ^ (t + 1) * (2 ^ (31 - t) - 1 - q) + 2 ^ t := by
    have e0 : tn (-x) = (2 ^ 32 - tn x) % 2 ^ 32 := by
      unfold tn
      rw [Int32.toBitVec_neg, BitVec.toNat_neg]
    rw [e0, Nat.mod_eq_of_lt (by omega), hq, Nat.mul_sub, Nat.mul_sub, e32]
    have : 2 ^ (t + 1) * q + 2 ^ (t + 1) ≤ 2 ^ 32 := by rw [← e32, ← Nat.mul_succ]; exact Nat.mul_le_mul_left _ hq2
    rw [Nat.mul_one]
    have ps : 2 ^ (t + 1) = 2 * 2 ^ t := by rw [Nat.pow_succ]; omega
    omega
  have e1 : tn (x &&& -x) = 2 ^ t := by
    rw [tn_and, hq, en, and_dig l1 l1, and_compl hq2, Nat.and_self, Nat.mul_zero, Nat.zero_add]
  have e2 : tn ((x &&& -x) - nI 1) = 2 ^ t - 1 := by
    rw [tn_sub (by rw [tn_nI (by omega), e1]; omega), tn_nI (by omega), e1]
  have e3 : ∀ k, cnt (bt ((x &&& -x) - nI 1)) k = min k t := by
    intro k
    induction k with
    | zero => show 0 = min 0 t; omega
    | succ k ih =>
      show cnt _ k + (bt ((x &&& -x) - nI 1) k).toNat = _
      rw [ih, tn_bt, e2, Nat.testBit_two_pow_sub_one]
      by_cases c : k < t
      · rw [decide_eq_true c]; show min k t + 1 = _; omega
      · rw [decide_eq_false c]; show min k t + 0 = _; omega
  rw [e3]
  omega
def wiM (s : Nat) : Int32 := maskOf (fun t => decide (1 ≤ t) && decide (t &&& s = t))
def arM (s : Nat) : Int32 := maskOf (fun t => decide (1 ≤ t) && decide (s &&& t = s))
def wiP (s p : Nat) : Int32 := maskOf (fun t => decide (1 ≤ t) && decide ((t % 2 ^ p) &&& s = t % 2 ^ p))
def arP (s p : Nat) : Int32 := maskOf (fun t => decide (1 ≤ t) && decide ((s % 2 ^ p) &&& t = s % 2 ^ p))
theorem hav_bt : ∀ p, p < 5 → ∀ i, i < 32 → bt (havF p) i = i.testBit p := by decide +kernel
theorem wiP_0 : ∀ s, s < 32 → wiP s 0 = -2 := by decide +kernel
theorem arP_0 : ∀ s, s < 32 → arP s 0 = -2 := by decide +kernel
theorem wiP_5 {s : Nat} : wiP s 5 = wiM s := by
  unfold wiP
  apply maskOf_eq
  intro i hi
  rw [maskOf_bt _ hi, Nat.mod_eq_of_lt (by omega)]
theorem arP_5 {s : Nat} (hs : s < 32) : arP s 5 = arM s := by
  unfold arP
  apply maskOf_eq
  intro i hi
  rw [maskOf_bt _ hi, Nat.mod_eq_of_lt (by omega)]
theorem wi_dec : ∀ t, t < 32 → ∀ s, s < 32 → ∀ p, p < 5 → (decide ((t % 2 ^ (p + 1)) &&& s = t % 2 ^ (p + 1))) = (decide ((t % 2 ^ p) &&& s = t % 2 ^ p) && (s.testBit p || !t.testBit p)) := by decide +kernel
theorem wiP_s {s p : Nat} (hs : s < 32) (hp : p < 5) : wiP s (p + 1) = if s.testBit p = true then wiP s p else wiP s p &&& (havF p ^^^ (-1)) := by
  apply b_ext
  intro i hi
  unfold wiP
  rw [maskOf_bt _ hi, wi_dec i hi s hs p hp]
  cases s.testBit p with
  | true => rw [if_pos rfl, maskOf_bt _ hi]; simp
  | false => rw [if_neg (by simp), b_and, maskOf_bt _ hi, m1_xor_bt _ hi, hav_bt p hp i hi]; simp [Bool.and_assoc]
theorem arP_s {s p : Nat} (hs : s < 32) (hp : p < 5) : arP s (p + 1) = if s.testBit p = true then arP s p &&& havF p else arP s p := by
  apply b_ext
  intro i hi
  unfold arP
  rw [maskOf_bt _ hi, wi_dec s hs i hi p hp]
  cases s.testBit p with
  | true => rw [if_pos rfl, b_and, maskOf_bt _ hi, hav_bt p hp i hi]; simp [Bool.and_assoc]
  | false => rw [if_neg (by simp), maskOf_bt _ hi]; simp
section
variable {h : AH}
theorem sp_NB_leastOf (d : Nat) {x : Int32} {t : Nat} {l : List Nat} (hx : els x = t :: l) : Cl (d + 1) 146 [.int x] h (some (.int (nI t))) h := by
  have kC9 := co_NB_leastOf
  refine Cl_of kC9 rfl rfl ?_
  repeat (refine R_s kC9 rfl rfl ?_)
  have key := sp_JI_bitCount d h ((x &&& -x) - nI 1)
  rw [els_low hx] at key
  refine R_cs kC9 rfl rfl rfl rfl (key) ?_
  exact R_ri kC9 rfl ⟨rfl, rfl⟩
theorem lc_within (d : Nat) (h0 : h.2 0 = ints 5 havF) {s : Nat} (hs : s < 32) : ∀ (m p : Nat), p + m = 5 → R d 144 4 [some (.int (nI s)), some (.int (wiP s p)), some (.int (nI p))] [] h (fun r2 h2 => r2 = some (.int (wiM s)) ∧ h2 = h) := by
  have kC9 := co_NB_within
  intro m
  induction m with
  | zero =>
    intro p hp
    have : p = 5 := by omega
    subst this
    repeat (refine R_s kC9 rfl rfl ?_)
    refine R_st kC9 rfl ?_
    refine R_alen kC9 rfl h0 (by omega) ?_
    refine R_ge kC9 rfl (rfl) (rfl) (by omega) (by omega) (fun hc => ?_) (fun hc => ?_)
    · repeat (refine R_s kC9 rfl rfl ?_)
      exact R_ri kC9 rfl ⟨ri_eq wiP_5, rfl⟩
    · omega
  | succ m ih =>
    intro p hp
    repeat (refine R_s kC9 rfl rfl ?_)
    refine R_st kC9 rfl ?_
    refine R_alen kC9 rfl h0 (by omega) ?_
    refine R_ge kC9 rfl (rfl) (rfl) (by omega) (by omega) (fun hc => ?_) (fun hc => ?_)
    · omega
    · repeat (refine R_s kC9 rfl rfl ?_)
      refine (show R d 144 13 [some (.int (nI s)), some (.int (wiP s p)), some (.int (nI p))] [.int ((nI s >>> (nI p &&& 31)) &&& nI 1)] h _ from ?_)
      rw [shr_bt (by omega), nI_bt p (by omega)]
      refine ZB_ne kC9 rfl (fun hb => ?_) (fun hb => ?_)
      · repeat (refine R_s kC9 rfl rfl ?_)
        refine R_g kC9 rfl ?_
        refine (show R d 144 4 [some (.int (nI s)), some (.int (wiP s p)), some (.int (nI p + nI 1))] [] h _ from ?_)
        have := ih (p + 1) (by omega)
        rw [wiP_s hs (by omega), if_pos hb] at this
        rw [nI_add]
        exact this
      · repeat (refine R_s kC9 rfl rfl ?_)
        refine R_st kC9 rfl ?_
        repeat (refine R_s kC9 rfl rfl ?_)
        refine R_ild kC9 rfl h0 (k := p) rfl (by omega) (by omega) ?_
        repeat (refine R_s kC9 rfl rfl ?_)
        refine R_g kC9 rfl ?_
        refine (show R d 144 4 [some (.int (nI s)), some (.int (wiP s p &&& (havF p ^^^ (-1)))), some (.int (nI p + nI 1))] [] h _ from ?_)
        have := ih (p + 1) (by omega)
        rw [wiP_s hs (by omega), if_neg (by rw [hb]; simp)] at this
        rw [nI_add]
        exact this
theorem sp_NB_within (d : Nat) (h0 : h.2 0 = ints 5 havF) {s : Nat} (hs : s < 32) : Cl d 144 [.int (nI s)] h (some (.int (wiM s))) h := by
  have kC9 := co_NB_within
  refine Cl_of kC9 rfl rfl ?_
  iterate 4 (refine R_s kC9 rfl rfl ?_)
  have := lc_within d h0 hs 5 0 (by omega)
  rw [wiP_0 s hs] at this
  exact this
theorem lc_around (d : Nat) (h0 : h.2 0 = ints 5 havF) {s : Nat} (hs : s < 32) : ∀ (m p : Nat), p + m = 5 → R d 145 4 [some (.int (nI s)), some (.int (arP s p)), some (.int (nI p))] [] h (fun r2 h2 => r2 = some (.int (arM s)) ∧ h2 = h) := by
  have kC9 := co_NB_around
  intro m
  induction m with
  | zero =>
    intro p hp
    have : p = 5 := by omega
    subst this
    repeat (refine R_s kC9 rfl rfl ?_)
    refine R_st kC9 rfl ?_
    refine R_alen kC9 rfl h0 (by omega) ?_
    refine R_ge kC9 rfl (rfl) (rfl) (by omega) (by omega) (fun hc => ?_) (fun hc => ?_)
    · repeat (refine R_s kC9 rfl rfl ?_)
      exact R_ri kC9 rfl ⟨ri_eq (arP_5 hs), rfl⟩
    · omega
  | succ m ih =>
    intro p hp
    repeat (refine R_s kC9 rfl rfl ?_)
    refine R_st kC9 rfl ?_
    refine R_alen kC9 rfl h0 (by omega) ?_
    refine R_ge kC9 rfl (rfl) (rfl) (by omega) (by omega) (fun hc => ?_) (fun hc => ?_)
    · omega
    · repeat (refine R_s kC9 rfl rfl ?_)
      refine (show R d 145 13 [some (.int (nI s)), some (.int (arP s p)), some (.int (nI p))] [.int ((nI s >>> (nI p &&& 31)) &&& nI 1)] h _ from ?_)
      rw [shr_bt (by omega), nI_bt p (by omega)]
      refine ZB_eq kC9 rfl (fun hb => ?_) (fun hb => ?_)
      · repeat (refine R_s kC9 rfl rfl ?_)
        refine R_g kC9 rfl ?_
        refine (show R d 145 4 [some (.int (nI s)), some (.int (arP s p)), some (.int (nI p + nI 1))] [] h _ from ?_)
        have := ih (p + 1) (by omega)
        rw [arP_s hs (by omega), if_neg (by rw [hb]; simp)] at this
        rw [nI_add]
        exact this
      · repeat (refine R_s kC9 rfl rfl ?_)
        refine R_st kC9 rfl ?_
        repeat (refine R_s kC9 rfl rfl ?_)
        refine R_ild kC9 rfl h0 (k := p) rfl (by omega) (by omega) ?_
        repeat (refine R_s kC9 rfl rfl ?_)
        refine R_g kC9 rfl ?_
        refine (show R d 145 4 [some (.int (nI s)), some (.int (arP s p &&& havF p)), some (.int (nI p + nI 1))] [] h _ from ?_)
        have := ih (p + 1) (by omega)
        rw [arP_s hs (by omega), if_pos hb] at this
        rw [nI_add]
        exact this
theorem sp_NB_around (d : Nat) (h0 : h.2 0 = ints 5 havF) {s : Nat} (hs : s < 32) : Cl d 145 [.int (nI s)] h (some (.int (arM s))) h := by
  have kC9 := co_NB_around
  refine Cl_of kC9 rfl rfl ?_
  iterate 4 (refine R_s kC9 rfl rfl ?_)
  have := lc_around d h0 hs 5 0 (by omega)
  rw [arP_0 s hs] at this
  exact this
theorem lc_nthOf (d : Nat) (S : Int32) (v : Int32) : ∀ (m s i : Nat), s + m = 32 → i < 2 ^ 31 → R d 143 4 [some (.int S), some (.int v), some (.int (nI i)), some (.int (nI s))] [] h (fun r2 h2 => r2 = some (.int (nthF (bt S) m s i)) ∧ h2 = h) := by
  have kC9 := co_NB_nthOf
  intro m
  induction m with
  | zero =>
    intro s i hs hi
    repeat (refine R_s kC9 rfl rfl ?_)
    refine R_ge kC9 rfl (rfl) (rfl) (by omega) (by omega) (fun hc => ?_) (fun hc => ?_)
    · repeat (refine R_s kC9 rfl rfl ?_)
      exact R_ri kC9 rfl ⟨rfl, rfl⟩
    · omega
  | succ m ih =>
    intro s i hs hi
    repeat (refine R_s kC9 rfl rfl ?_)
    refine R_ge kC9 rfl (rfl) (rfl) (by omega) (by omega) (fun hc => ?_) (fun hc => ?_)
    · omega
    · repeat (refine R_s kC9 rfl rfl ?_)
      refine (show R d 143 12 [some (.int S), some (.int v), some (.int (nI i)), some (.int (nI s))] [.int (ushr S (nI s) &&& nI 1)] h _ from ?_)
      rw [ushr_bt (by omega)]
      rw [nthF_succ]
      refine ZB_ne kC9 rfl (fun hb => ?_) (fun hb => ?_)
      · rw [if_pos hb]
        repeat (refine R_s kC9 rfl rfl ?_)
        refine Z_ne kC9 rfl (rfl) (by omega) (fun hc => ?_) (fun hc => ?_)
        · rw [if_neg hc]
          repeat (refine R_s kC9 rfl rfl ?_)
          refine R_g kC9 rfl ?_
          refine (show R d 143 4 [some (.int S), some (.int v), some (.int (nI i + -1)), some (.int (nI s + nI 1))] [] h _ from ?_)
          rw [nI_add, show nI i + -1 = nI (i - 1) by rw [← pk_sub (show 1 ≤ i by omega), Int32.sub_eq_add_neg]; rfl]
          exact ih (s + 1) (i - 1) (by omega) (by omega)
        · rw [if_pos hc]
          repeat (refine R_s kC9 rfl rfl ?_)
          exact R_ri kC9 rfl ⟨rfl, rfl⟩
      · rw [if_neg (by rw [hb]; simp)]
        refine R_g kC9 rfl ?_
        repeat (refine R_s kC9 rfl rfl ?_)
        refine R_g kC9 rfl ?_
        refine (show R d 143 4 [some (.int S), some (.int v), some (.int (nI i)), some (.int (nI s + nI 1))] [] h _ from ?_)
        rw [nI_add]
        exact ih (s + 1) i (by omega) hi
theorem sp_NB_nthOf (d : Nat) (S : Int32) {i : Nat} (hi : i < 2 ^ 31) : Cl d 143 [.int S, .int (nI i)] h (some (.int (nthF (bt S) 31 1 i))) h := by
  have kC9 := co_NB_nthOf
  refine Cl_of kC9 rfl rfl ?_
  iterate 4 (refine R_s kC9 rfl rfl ?_)
  exact lc_nthOf d S (nI i) 31 1 i (by omega) hi
end
