/-! THE CLASS, 11: Family: isJoined, nestTakes -/
/-- the rank of a part of A among the parts of A, by bits below k -/
def rkA (A x : Int32) : Nat → Nat
  | 0 => 0
  | k + 1 => rkA A x k + (if (bt A k && bt x k) = true then 2 ^ cnt (bt A) k else 0)
theorem rkA_succ (A x : Int32) (k : Nat) : rkA A x (k + 1) = rkA A x k + (if (bt A k && bt x k) = true then 2 ^ cnt (bt A) k else 0) := rfl
theorem cnt_succ (P : Nat → Bool) (k : Nat) : cnt P (k + 1) = cnt P k + (P k).toNat := rfl
theorem rkA_self (A : Int32) : ∀ k, rkA A A k + 1 = 2 ^ cnt (bt A) k
  | 0 => rfl
  | k + 1 => by
    have ih := rkA_self A k
    rw [rkA_succ, cnt_succ]
    cases hb : bt A k with
    | true =>
      show (rkA A A k + 2 ^ cnt (bt A) k) + 1 = 2 ^ (cnt (bt A) k + 1)
      rw [Nat.pow_succ]
      omega
    | false =>
      rw [if_neg (by simp)]
      exact ih
theorem rkA_lt (A x : Int32) : ∀ k, rkA A x k < 2 ^ cnt (bt A) k
  | 0 => Nat.one_pos
  | k + 1 => by
    have ih := rkA_lt A x k
    rw [rkA_succ, cnt_succ]
    cases hb : bt A k with
    | true =>
      show _ < 2 ^ (cnt (bt A) k + 1)
      rw [Nat.pow_succ]
      split <;> omega
    | false =>
      rw [if_neg (by simp)]
      exact ih
theorem rkA_inj (A x y : Int32) : ∀ k, rkA A x k = rkA A y k → ∀ i, i < k → bt A i = true → bt x i = bt y i
  | 0, _, i, hi, _ => by omega
  | k + 1, h, i, hi, hA => by
    rw [rkA_succ, rkA_succ] at h
    have l1 := rkA_lt A x k
    have l2 := rkA_lt A y k
    by_cases e : i = k
    · subst e
      rw [hA] at h
      cases hx : bt x i <;> cases hy : bt y i <;> rw [hx, hy] at h <;> simp at h <;> first | rfl | omega
    · refine rkA_inj A x y k ?_ i (by omega) hA
      cases hb : bt A k with
      | false => rw [hb] at h; simpa using h
      | true =>
        rw [hb] at h
        cases hx : bt x k <;> cases hy : bt y k <;> rw [hx, hy] at h <;> simp at h <;> omega
theorem rkA_next {A x : Int32} {t : Nat} {l : List Nat} (hx : els x = t :: l) (hsub : x &&& A = x) : rkA A ((x - nI 1) &&& A) 32 + 1 = rkA A x 32 ∧ ((x - nI 1) &&& A) &&& A = (x - nI 1) &&& A := by
  obtain ⟨t32, hb, hlow, q, hq, hq2⟩ := els_cons hx
  have p1 := Nat.two_pow_pos t
  have hA : ∀ i, bt x i = true → bt A i = true := by
    intro i hi
    have : bt (x &&& A) i = true := by rw [hsub]; exact hi
    rw [b_and, Bool.and_eq_true] at this
    exact this.2
  have e1 : tn (x - nI 1) = 2 ^ (t + 1) * q + (2 ^ t - 1) := by
    rw [tn_sub (by rw [tn_nI (by omega), hq]; omega), tn_nI (by omega), hq]
    omega
  have l1 : 2 ^ t < 2 ^ (t + 1) := by rw [Nat.pow_succ]; omega
  have eb : ∀ i, i < 32 → bt (x - nI 1) i = if i < t then true else if i = t then false else bt x i := by
    intro i hi
    rw [tn_bt, tn_bt, e1, hq, Nat.testBit_two_pow_mul_add _ (by omega), Nat.testBit_two_pow_mul_add _ l1, Nat.testBit_two_pow_sub_one, Nat.testBit_two_pow]
    by_cases c1 : i < t
    · rw [if_pos (by omega), if_pos c1, decide_eq_true c1]
    · by_cases c2 : i = t
      · rw [if_pos (by omega), if_neg c1, if_pos c2, decide_eq_false c1]
      · rw [if_neg (by omega), if_neg c1, if_neg c2, if_neg (by omega)]
  have ebl : ∀ i, i < t → bt (x - nI 1) i = true := fun i hi => by rw [eb i (by omega), if_pos hi]
  have ebt : bt (x - nI 1) t = false := by rw [eb t t32, if_neg (Nat.lt_irrefl t), if_pos rfl]
  have ebh : ∀ i, t < i → i < 32 → bt (x - nI 1) i = bt x i := fun i hi h32 => by rw [eb i h32, if_neg (by omega), if_neg (by omega)]
  refine ⟨?_, ?_⟩
  · have low : ∀ k, k ≤ t → rkA A x k = 0 ∧ rkA A ((x - nI 1) &&& A) k + 1 = 2 ^ cnt (bt A) k := by
      intro k
      induction k with
      | zero => exact fun _ => ⟨rfl, rfl⟩
      | succ k ih =>
        intro hk
        obtain ⟨i1, i2⟩ := ih (by omega)
        rw [rkA_succ, rkA_succ, hlow k (by omega), i1, b_and, ebl k (by omega), cnt_succ]
        refine ⟨by simp, ?_⟩
        cases hb : bt A k with
        | true =>
          show (rkA A ((x - nI 1) &&& A) k + 2 ^ cnt (bt A) k) + 1 = 2 ^ (cnt (bt A) k + 1)
          rw [Nat.pow_succ]
          omega
        | false =>
          rw [if_neg (by simp)]
          exact i2
    have high : ∀ k, t < k → k ≤ 32 → rkA A ((x - nI 1) &&& A) k + 1 = rkA A x k := by
      intro k
      induction k with
      | zero => omega
      | succ k ih =>
        intro hk hk2
        rw [rkA_succ, rkA_succ, b_and]
        by_cases c : k = t
        · subst c
          obtain ⟨i1, i2⟩ := low k (Nat.le_refl k)
          rw [ebt, hb, hA k hb, i1]
          show rkA A ((x - nI 1) &&& A) k + 0 + 1 = 0 + 2 ^ cnt (bt A) k
          omega
        · have := ih (by omega) (by omega)
          rw [ebh k (by omega) (by omega)]
          have e : (bt A k && (bt x k && bt A k)) = (bt A k && bt x k) := by cases bt A k <;> cases bt x k <;> rfl
          rw [e]
          omega
    exact high 32 t32 (Nat.le_refl _)
  · apply b_ext
    intro i _
    rw [b_and, b_and, Bool.and_assoc, Bool.and_self]
def unL (l : List Nat) (s : Nat) : Nat := l.foldl (· ||| ·) s
theorem unL_cons (t : Nat) (l : List Nat) (s : Nat) : unL (t :: l) s = unL l (s ||| t) := rfl
theorem unL_lt : ∀ (l : List Nat) (s : Nat), (∀ t ∈ l, t < 32) → s < 32 → unL l s < 32
  | [], s, _, hs => hs
  | t :: l, s, hl, hs => by
    rw [unL_cons]
    exact unL_lt l _ (fun x hx => hl x (List.mem_cons_of_mem _ hx)) (Nat.or_lt_two_pow (n := 5) hs (hl t List.mem_cons_self))
def jnP (S A : Int32) (s : Nat) : Prop := ∃ y : Int32, y ≠ 0 ∧ y &&& A = y ∧ bt S (unL (els y) s) = true
theorem els32 (x : Int32) : ∀ t ∈ els x, t < 32 := fun t ht => (els_mem.mp ht).1
theorem nI_low {x : Int32} {t : Nat} {l : List Nat} (hx : els x = t :: l) : x ≠ 0 := fun e => by rw [els_nil.mpr e] at hx; cases hx
section
variable {h : AH} {o n : Nat} {S Lm : Int32}
theorem lc_joinedI (d : Nat) (Q : Option Value → AH → Prop) (A x : Int32) (s k : Nat) (U : Nat) (kk : ∀ w6 : Int32, R (d + 1) 54 38 [some (.ref o), some (.int A), some (.int (nI s)), some (.int x), some (.int (nI k)), some (.int (nI U)), some (.int w6), some (.int (nI 0))] [] h Q) : ∀ (m : Nat) (y : Int32) (u : Nat), (els y).length = m → unL (els y) u = U → R (d + 1) 54 18 [some (.ref o), some (.int A), some (.int (nI s)), some (.int x), some (.int (nI k)), some (.int (nI u)), some (.int y), some (.int (nI m))] [] h Q := by
  have kC9 := co_FA_isJoined
  intro m
  induction m with
  | zero =>
    intro y u hm hU
    rw [List.length_eq_zero_iff] at hm
    rw [hm] at hU
    have : u = U := hU
    subst this
    repeat (refine R_s kC9 rfl rfl ?_)
    refine Z_le kC9 rfl (rfl) (by omega) (fun hc => ?_) (fun hc => ?_)
    · exact kk y
    · omega
  | succ m ih =>
    intro y u hm hU
    have hl : m < 32 := by
      have := els_len y
      have := cnt_le (bt y) 32
      omega
    obtain ⟨t, l, ht⟩ : ∃ t l, els y = t :: l := by
      cases he : els y with
      | nil => rw [he] at hm; cases hm
      | cons t l => exact ⟨t, l, rfl⟩
    repeat (refine R_s kC9 rfl rfl ?_)
    refine Z_le kC9 rfl rfl (by omega) (fun hc => by omega) (fun hc => ?_)
    repeat (refine R_s kC9 rfl rfl ?_)
    have key := sp_JI_bitCount d h ((y &&& -y) - nI 1)
    rw [els_low ht] at key
    refine R_cs kC9 rfl rfl rfl rfl (key) ?_
    repeat (refine R_s kC9 rfl rfl ?_)
    refine R_g kC9 rfl ?_
    refine (show R (d + 1) 54 18 [some (.ref o), some (.int A), some (.int (nI s)), some (.int x), some (.int (nI k)), some (.int (nI u ||| nI t)), some (.int (y &&& (y - nI 1))), some (.int (nI (m + 1) + (-1)))] [] h Q from ?_)
    rw [nx_or, pk_m1]
    refine ih _ _ ?_ ?_
    · rw [els_tail ht]
      rw [ht] at hm
      exact Nat.succ.inj hm
    · rw [els_tail ht, ← unL_cons, ← ht]
      exact hU
theorem lc_joinedO (d : Nat) (hF : FamC h o n S Lm) (A : Int32) {s : Nat} (hs : s < 32) : ∀ (m : Nat) (x : Int32) (w5 w6 w7 : Option Value), rkA A x 32 = m → x &&& A = x → m < 2 ^ 31 → (∀ y : Int32, y &&& A = y → m < rkA A y 32 → bt S (unL (els y) s) = false) → (w5 = none ∧ w6 = none ∧ w7 = none) ∨ (∃ a b c : Int32, w5 = some (.int a) ∧ w6 = some (.int b) ∧ w7 = some (.int c)) → R (d + 1) 54 9 [some (.ref o), some (.int A), some (.int (nI s)), some (.int x), some (.int (nI m)), w5, w6, w7] [] h (fun r2 h2 => r2 = some (.int (b2i (pb (jnP S A s)))) ∧ h2 = h) := by
  have kC9 := co_FA_isJoined
  intro m
  induction m with
  | zero =>
    intro x w5 w6 w7 hm hx _ hv hw
    repeat (refine R_s kC9 rfl rfl ?_)
    refine Z_le kC9 rfl (rfl) (by omega) (fun hc => ?_) (fun hc => ?_)
    · repeat (refine R_s kC9 rfl rfl ?_)
      refine R_rz kC9 rfl (Or.inl rfl) ⟨ri_eq (b2i_f (pb_false.mpr ?_)), rfl⟩
      rintro ⟨y, hy0, hyA, hyS⟩
      obtain ⟨t, l, ht⟩ : ∃ t l, els y = t :: l := by
        cases he : els y with
        | nil => exact absurd (els_nil.mp he) hy0
        | cons t l => exact ⟨t, l, rfl⟩
      have := (rkA_next ht hyA).1
      rw [hv y hyA (by omega)] at hyS
      cases hyS
    · omega
  | succ m ih =>
    intro x w5 w6 w7 hm hx hm31 hv hw
    obtain ⟨t, l, ht⟩ : ∃ t l, els x = t :: l := by
      cases he : els x with
      | nil =>
        have e0 := els_nil.mp he
        subst e0
        have : ∀ k, rkA A 0 k = 0 := by
          intro k
          induction k with
          | zero => rfl
          | succ k ih2 => rw [rkA_succ, ih2, b_0, Bool.and_false]; rfl
        rw [this 32] at hm
        cases hm
      | cons t l => exact ⟨t, l, rfl⟩
    obtain ⟨n1, n2⟩ := rkA_next ht hx
    have hU : unL (els x) s < 32 := unL_lt _ _ (els32 x) hs
    repeat (refine R_s kC9 rfl rfl ?_)
    refine Z_le kC9 rfl rfl (by omega) (fun hc => by omega) (fun hc => ?_)
    have body : ∀ (w7' : Option Value), R (d + 1) 54 15 [some (.ref o), some (.int A), some (.int (nI s)), some (.int x), some (.int (nI (m + 1))), some (.int (nI s)), some (.int x), w7'] [] h (fun r2 h2 => r2 = some (.int (b2i (pb (jnP S A s)))) ∧ h2 = h) := by
      intro w7'
      repeat (refine R_s kC9 rfl rfl ?_)
      refine R_cs kC9 rfl rfl rfl rfl (sp_JI_bitCount d h x) ?_
      iterate 1 (refine R_s kC9 rfl rfl ?_)
      rw [← els_len x]
      refine lc_joinedI d _ A x s (m + 1) (unL (els x) s) (fun w6' => ?_) (els x).length x s rfl rfl
      repeat (refine R_s kC9 rfl rfl ?_)
      refine R_get kC9 rfl (hF.2) rfl ?_
      repeat (refine R_s kC9 rfl rfl ?_)
      refine (show R (d + 1) 54 44 [some (.ref o), some (.int A), some (.int (nI s)), some (.int x), some (.int (nI (m + 1))), some (.int (nI (unL (els x) s))), some (.int w6'), some (.int (nI 0))] [.int (ushr S (nI (unL (els x) s)) &&& nI 1)] h _ from ?_)
      rw [ushr_bt hU]
      refine ZB_eq kC9 rfl (fun hd => ?_) (fun hd => ?_)
      · repeat (refine R_s kC9 rfl rfl ?_)
        refine R_g kC9 rfl ?_
        refine (show R (d + 1) 54 9 [some (.ref o), some (.int A), some (.int (nI s)), some (.int ((x - nI 1) &&& A)), some (.int (nI (m + 1) + (-1))), some (.int (nI (unL (els x) s))), some (.int w6'), some (.int (nI 0))] [] h _ from ?_)
        rw [pk_m1]
        refine ih _ _ _ _ (by omega) n2 (by omega) (fun y hy hr => ?_) (Or.inr ⟨_, _, _, rfl, rfl, rfl⟩)
        by_cases e : rkA A y 32 = m + 1
        · have : y = x := b_ext (fun i hi => by
            cases hAi : bt A i with
            | true => exact rkA_inj A y x 32 (by omega) i hi hAi
            | false =>
              have e1 : bt (y &&& A) i = bt y i := by rw [hy]
              have e2 : bt (x &&& A) i = bt x i := by rw [hx]
              rw [b_and, hAi, Bool.and_false] at e1 e2
              rw [← e1, ← e2])
          subst this
          exact hd
        · exact hv y hy (by omega)
      · repeat (refine R_s kC9 rfl rfl ?_)
        exact R_rz kC9 rfl (Or.inr rfl) ⟨ri_eq (b2i_t (pb_true.mpr ⟨x, nI_low ht, hx, hd⟩)), rfl⟩
    rcases hw with ⟨rfl, rfl, rfl⟩ | ⟨a, b, c, rfl, rfl, rfl⟩
    · iterate 4 (refine R_s kC9 rfl rfl ?_)
      exact body none
    · iterate 4 (refine R_s kC9 rfl rfl ?_)
      exact body _
theorem sp_FA_isJoined (d : Nat) (hF : FamC h o n S Lm) (A : Int32) (hA : cnt (bt A) 32 < 31) {s : Nat} (hs : s < 32) : Cl (d + 1) 54 [.ref o, .int A, .int (nI s)] h (some (.int (b2i (pb (jnP S A s))))) h := by
  have kC9 := co_FA_isJoined
  refine Cl_of kC9 rfl rfl ?_
  repeat (refine R_s kC9 rfl rfl ?_)
  refine R_cs kC9 rfl rfl rfl rfl (sp_JI_bitCount d h A) ?_
  have hp := Nat.pow_lt_pow_right (a := 2) (by omega) hA
  have e := rkA_self A 32
  iterate 4 (refine R_s kC9 rfl rfl ?_)
  refine (show R (d + 1) 54 9 [some (.ref o), some (.int A), some (.int (nI s)), some (.int A), some (.int ((nI 1 <<< (nI (cnt (bt A) 32) &&& 31)) - nI 1)), none, none, none] [] h _ from ?_)
  rw [nI_shl (by omega), Nat.one_shiftLeft, pk_sub Nat.one_le_two_pow]
  refine lc_joinedO d hF A hs _ A none none none (by omega) ?_ (by omega) (fun y _ hr => ?_) (Or.inl ⟨rfl, rfl, rfl⟩)
  · apply b_ext
    intro i _
    rw [b_and, Bool.and_self]
  · have := rkA_lt A y 32
    omega
/-- the sets of a nest that are apart from s -/
def apM (N : Int32) (s : Nat) : Int32 := maskOf (fun t => bt N t && decide (s &&& t = 0))
def ntP (S N : Int32) (s : Nat) : Prop := (∀ t ∈ els N, s &&& t = 0 ∨ s ||| t = s ∨ s ||| t = t) ∧ ¬ jnP S (apM N s) s
def apL (l : List Nat) (s : Nat) : Int32 := maskOf (fun t => decide (t ∈ l) && decide (s &&& t = 0))
theorem lc_takes (d : Nat) (hF : FamC h o n S Lm) {N : Int32} (hN : cnt (bt N) 32 < 31) {s : Nat} (hs : s < 32) : ∀ (m : Nat) (y : Int32) (l : List Nat) (w6 w7 : Option Value), (els y).length = m → els N = l ++ els y → (∀ t ∈ l, s &&& t = 0 ∨ s ||| t = s ∨ s ||| t = t) → (w6 = none ∧ w7 = none) ∨ (∃ a b : Int32, w6 = some (.int a) ∧ w7 = some (.int b)) → R (d + 2) 53 7 [some (.ref o), some (.int N), some (.int (nI s)), some (.int (apL l s)), some (.int y), some (.int (nI m)), w6, w7] [] h (fun r2 h2 => r2 = some (.int (b2i (pb (ntP S N s)))) ∧ h2 = h) := by
  have kC9 := co_FA_nestTakes
  intro m
  induction m with
  | zero =>
    intro y l w6 w7 hm hl hok hw
    rw [List.length_eq_zero_iff] at hm
    rw [hm, List.append_nil] at hl
    have ea : apL l s = apM N s := b_ext (fun i hi => by
      unfold apL apM
      rw [maskOf_bt _ hi, maskOf_bt _ hi]
      congr 1
      rw [← hl]
      cases hb : bt N i with
      | true => exact decide_eq_true (els_mem.mpr ⟨hi, hb⟩)
      | false => exact decide_eq_false (fun q => by have := (els_mem.mp q).2; rw [hb] at this; cases this))
    have hc2 : cnt (bt (apM N s)) 32 < 31 := by
      refine Nat.lt_of_le_of_lt ?_ hN
      have mono : ∀ j, j ≤ 32 → cnt (bt (apM N s)) j ≤ cnt (bt N) j := by
        intro j
        induction j with
        | zero => exact fun _ => Nat.le_refl _
        | succ j ih =>
          intro hj
          have := ih (by omega)
          rw [cnt_succ, cnt_succ]
          unfold apM at *
          rw [maskOf_bt _ (by omega)]
          cases bt N j with
          | false => show _ + 0 ≤ _ + 0; omega
          | true =>
            cases decide (s &&& j = 0) with
            | false => show _ + 0 ≤ _ + 1; omega
            | true => show _ + 1 ≤ _ + 1; omega
      exact mono 32 (Nat.le_refl _)
    repeat (refine R_s kC9 rfl rfl ?_)
    refine Z_le kC9 rfl (rfl) (by omega) (fun hc => ?_) (fun hc => ?_)
    · repeat (refine R_s kC9 rfl rfl ?_)
      rw [ea]
      refine R_cv kC9 rfl rfl rfl rfl hF.2 hF.1 (sp_FA_isJoined d hF (apM N s) hc2 hs) ?_
      refine ZB_ne kC9 rfl (fun hd => ?_) (fun hd => ?_)
      · repeat (refine R_s kC9 rfl rfl ?_)
        exact R_rz kC9 rfl (Or.inl rfl) ⟨ri_eq (b2i_f (pb_false.mpr (fun q => q.2 (pb_true.mp hd)))), rfl⟩
      · repeat (refine R_s kC9 rfl rfl ?_)
        refine R_g kC9 rfl ?_
        exact R_rz kC9 rfl (Or.inr rfl) ⟨ri_eq (b2i_t (pb_true.mpr ⟨by rw [hl]; exact hok, pb_false.mp hd⟩)), rfl⟩
    · omega
  | succ m ih =>
    intro y l w6 w7 hm hl hok hw
    have hl32 : m < 32 := by
      have := els_len y
      have := cnt_le (bt y) 32
      omega
    obtain ⟨t, l2, ht⟩ : ∃ t l2, els y = t :: l2 := by
      cases he : els y with
      | nil => rw [he] at hm; cases hm
      | cons t l2 => exact ⟨t, l2, rfl⟩
    have t32 : t < 32 := els32 y t (by rw [ht]; exact List.mem_cons_self)
    have hor : s ||| t < 32 := Nat.or_lt_two_pow (n := 5) hs t32
    have hand : s &&& t < 32 := Nat.lt_of_le_of_lt Nat.and_le_left hs
    have htl := els_tail ht
    have hl2 : els N = (l ++ [t]) ++ els (y &&& (y - nI 1)) := by rw [hl, ht, htl]; simp
    have hlen : (els (y &&& (y - nI 1))).length = m := by rw [htl]; rw [ht] at hm; exact Nat.succ.inj hm
    have tN : t ∈ els N := by rw [hl2]; simp
    have goon : ∀ A', A' = apL (l ++ [t]) s → (s &&& t = 0 ∨ s ||| t = s ∨ s ||| t = t) → R (d + 2) 53 41 [some (.ref o), some (.int N), some (.int (nI s)), some (.int A'), some (.int (y &&& (y - nI 1))), some (.int (nI (m + 1))), some (.int (nI t)), some (.int (nI (s ||| t)))] [] h (fun r2 h2 => r2 = some (.int (b2i (pb (ntP S N s)))) ∧ h2 = h) := by
      rintro A' rfl hgood
      repeat (refine R_s kC9 rfl rfl ?_)
      refine R_g kC9 rfl ?_
      refine (show R (d + 2) 53 7 [some (.ref o), some (.int N), some (.int (nI s)), some (.int (apL (l ++ [t]) s)), some (.int (y &&& (y - nI 1))), some (.int (nI (m + 1) + (-1))), some (.int (nI t)), some (.int (nI (s ||| t)))] [] h _ from ?_)
      rw [pk_m1]
      refine ih _ _ _ _ hlen hl2 (fun u hu => ?_) (Or.inr ⟨_, _, rfl, rfl⟩)
      rcases List.mem_append.mp hu with q | q
      · exact hok u q
      · have : u = t := by simpa using q
        rw [this]; exact hgood
    have body : R (d + 2) 53 22 [some (.ref o), some (.int N), some (.int (nI s)), some (.int (apL l s)), some (.int (y &&& (y - nI 1))), some (.int (nI (m + 1))), some (.int (nI t)), some (.int (nI s ||| nI t))] [] h (fun r2 h2 => r2 = some (.int (b2i (pb (ntP S N s)))) ∧ h2 = h) := by
      rw [nx_or]
      repeat (refine R_s kC9 rfl rfl ?_)
      refine (show R (d + 2) 53 25 [some (.ref o), some (.int N), some (.int (nI s)), some (.int (apL l s)), some (.int (y &&& (y - nI 1))), some (.int (nI (m + 1))), some (.int (nI t)), some (.int (nI (s ||| t)))] [.int (nI s &&& nI t)] h _ from ?_)
      rw [nx_and]
      have stay : ¬ s &&& t = 0 → apL l s = apL (l ++ [t]) s := fun hne => b_ext (fun i hi => by
        unfold apL
        rw [maskOf_bt _ hi, maskOf_bt _ hi]
        by_cases e : i = t
        · subst e; rw [decide_eq_false hne]; simp
        · simp [e])
      refine Z_ne kC9 rfl rfl (by omega) (fun hd => ?_) (fun hd => ?_)
      · repeat (refine R_s kC9 rfl rfl ?_)
        refine R_eq kC9 rfl rfl rfl (by omega) (by omega) (fun he => ?_) (fun he => ?_)
        · exact goon _ (stay hd) (Or.inr (Or.inl he))
        · repeat (refine R_s kC9 rfl rfl ?_)
          refine R_eq kC9 rfl rfl rfl (by omega) (by omega) (fun hf => ?_) (fun hf => ?_)
          · exact goon _ (stay hd) (Or.inr (Or.inr hf))
          · repeat (refine R_s kC9 rfl rfl ?_)
            refine R_rz kC9 rfl (Or.inl rfl) ⟨ri_eq (b2i_f (pb_false.mpr (fun q => ?_))), rfl⟩
            rcases q.1 t tN with q | q | q
            · exact hd q
            · exact he q
            · exact hf q
      · iterate 6 (refine R_s kC9 rfl rfl ?_)
        refine R_g kC9 rfl ?_
        refine goon _ ?_ (Or.inl hd)
        refine (show apL l s ||| (nI 1 <<< (nI t &&& 31)) = _ from ?_)
        apply b_ext
        intro i hi
        unfold apL
        rw [b_or, maskOf_bt _ hi, maskOf_bt _ hi, one_bt t32 hi]
        by_cases e : i = t
        · subst e; rw [decide_eq_true hd]; simp
        · simp [e]
    repeat (refine R_s kC9 rfl rfl ?_)
    refine Z_le kC9 rfl rfl (by omega) (fun hc => by omega) (fun hc => ?_)
    repeat (refine R_s kC9 rfl rfl ?_)
    refine R_cs kC9 rfl rfl rfl rfl (sp_NB_leastOf (d) ht) ?_
    rcases hw with ⟨rfl, rfl⟩ | ⟨a, b, rfl, rfl⟩
    · iterate 11 (refine R_s kC9 rfl rfl ?_)
      exact body
    · iterate 11 (refine R_s kC9 rfl rfl ?_)
      exact body
theorem sp_FA_nestTakes (d : Nat) (hF : FamC h o n S Lm) {N : Int32} (hN : cnt (bt N) 32 < 31) {s : Nat} (hs : s < 32) : Cl (d + 2) 53 [.ref o, .int N, .int (nI s)] h (some (.int (b2i (pb (ntP S N s))))) h := by
  have kC9 := co_FA_nestTakes
  refine Cl_of kC9 rfl rfl ?_
  repeat (refine R_s kC9 rfl rfl ?_)
  refine R_cs kC9 rfl rfl rfl rfl (sp_JI_bitCount (d + 1) h N) ?_
  iterate 1 (refine R_s kC9 rfl rfl ?_)
  have key := lc_takes (h := h) d hF hN hs (els N).length N [] none none rfl rfl (fun t ht => by cases ht) (Or.inl ⟨rfl, rfl⟩)
  have e : apL [] s = 0 := b_ext (fun i hi => by unfold apL; rw [maskOf_bt _ hi, b_0]; simp)
  rw [e] at key
  rw [← els_len N]
  exact key
end
