/-! THE REFERENCE, 15: family, within, parts -/
theorem nI_dec {k : Nat} (h : 1 ≤ k) : nI k + (-1) = nI (k - 1) := by
  obtain ⟨j, rfl⟩ : ∃ j, k = j + 1 := ⟨k - 1, by omega⟩
  rw [← nI_add j 1, Int32.add_assoc, show nI 1 + -1 = 0 by decide, Int32.add_zero, Nat.add_sub_cancel]
/-- the k-th of those from s on, m at most -/
def nthF (P : Nat → Bool) : Nat → Nat → Nat → Int32
  | 0, _, _ => -5
  | m + 1, s, k => if P s = true then (if k = 0 then nI s else nthF P m (s + 1) (k - 1)) else nthF P m (s + 1) k
theorem nthF_succ (P : Nat → Bool) (m s k : Nat) : nthF P (m + 1) s k = if P s = true then (if k = 0 then nI s else nthF P m (s + 1) (k - 1)) else nthF P m (s + 1) k := rfl
theorem nthF_congr {P P' : Nat → Bool} : ∀ (m s k : Nat), (∀ i, s ≤ i → i < s + m → P i = P' i) → nthF P m s k = nthF P' m s k
  | 0, _, _, _ => rfl
  | m + 1, s, k, h => by
    rw [nthF_succ, nthF_succ, h s (by omega) (by omega), nthF_congr m (s + 1) k (fun i h1 h2 => h i (by omega) (by omega)), nthF_congr m (s + 1) (k - 1) (fun i h1 h2 => h i (by omega) (by omega))]
theorem nthF_no (P : Nat → Bool) : ∀ (m s k : Nat), s + m ≤ 32 → (nthF P m s k = -5 ↔ cnt P (s + m) ≤ cnt P s + k)
  | 0, s, k, _ => by
    show (-5 : Int32) = -5 ↔ _
    simp
  | m + 1, s, k, h => by
    rw [nthF_succ]
    have e : cnt P (s + 1) = cnt P s + (P s).toNat := rfl
    have e2 : s + 1 + m = s + (m + 1) := by omega
    have mono : ∀ j, cnt P (s + 1) ≤ cnt P (s + 1 + j) := by
      intro j
      induction j with
      | zero => exact Nat.le_refl _
      | succ j ih => exact Nat.le_trans ih (by show _ ≤ cnt P (s + 1 + j) + _; omega)
    have hm := mono m
    rw [e2] at hm
    by_cases hp : P s = true
    · rw [if_pos hp]
      rw [hp] at e
      simp at e
      by_cases hk : k = 0
      · rw [if_pos hk]
        constructor
        · intro q
          have hs31 : s < 2 ^ 31 := by omega
          have := nI_toInt hs31
          rw [q] at this
          have e5 : (-5 : Int32).toInt = -5 := by decide
          omega
        · intro q; omega
      · rw [if_neg hk, nthF_no P m (s + 1) (k - 1) (by omega), e2]
        omega
    · rw [if_neg hp]
      have hf : P s = false := by cases q : P s <;> simp_all
      rw [hf] at e
      simp at e
      rw [nthF_no P m (s + 1) k (by omega), e2]
      omega
def famR (S v : Int32) : Int32 := if v < 0 then -1 else nthF (bt S) 31 1 v.toNatClampNeg
/-- s is a part of a set -/
def partP (S : Int32) (set s : Nat) : Prop := bt S s = true ∧ s &&& set = s ∧ ∀ o, 1 ≤ o → o < 32 → o ≠ s → bt S o = true → o &&& set = o → s &&& o ≠ s
def wthB (S : Int32) (set s : Nat) : Bool := bt S s && decide (s &&& set = s)
section
variable {h : AH} {k fed pl le fi co : Int32} {G : Nat → Int32} {n : Nat} {S : Int32}
theorem lp_family (d : Nat) (ho : h.2 76 = mob k fed pl le fi co) (hg : h.2 77 = ints 106 G) (hS : ∀ s, s < 32 → G (1 + s) = b2i (bt S s)) (v : Int32) : ∀ (m s i : Nat), s + m = 32 → i < 2 ^ 31 → R d 186 8 [some (.ref 76), some (.int v), some (.int (nI i)), some (.int (nI s))] [] h (fun r2 h2 => r2 = some (.int (nthF (bt S) m s i)) ∧ h2 = h) := by
  have kC9 := co_MO_family
  intro m
  induction m with
  | zero =>
    intro s i hs hi
    have : s = 32 := by omega
    subst this
    repeat (refine R_s kC9 rfl rfl ?_)
    refine R_ge kC9 rfl (rfl) (rfl) (by omega) (by omega) (fun hc => ?_) (fun hc => ?_)
    · repeat (refine R_s kC9 rfl rfl ?_)
      exact R_ri kC9 rfl ⟨rfl, rfl⟩
    · omega
  | succ m ih =>
    intro s i hs hi
    rw [nthF_succ]
    have goon : ∀ (j : Nat) (v2 : Int32), v2 = nI j → j < 2 ^ 31 → R d 186 24 [some (.ref 76), some (.int v), some (.int v2), some (.int (nI s))] [] h (fun r2 h2 => r2 = some (.int (nthF (bt S) m (s + 1) j)) ∧ h2 = h) := by
      intro j v2 e hj
      subst e
      repeat (refine R_s kC9 rfl rfl ?_)
      refine R_g kC9 rfl ?_
      refine (show R d 186 8 [some (.ref 76), some (.int v), some (.int (nI j)), some (.int (nI s + nI 1))] [] h _ from ?_)
      rw [nI_add]
      exact ih (s + 1) j (by omega) hj
    repeat (refine R_s kC9 rfl rfl ?_)
    refine R_ge kC9 rfl (rfl) (rfl) (by omega) (by omega) (fun hc => ?_) (fun hc => ?_)
    · omega
    · repeat (refine R_s kC9 rfl rfl ?_)
      refine R_get kC9 rfl (ho) rfl ?_
      repeat (refine R_s kC9 rfl rfl ?_)
      refine R_ild kC9 rfl (hg) (nI_add 1 s) (by omega) (by decide) ?_
      rw [hS s (by omega), b2i_nI (bt S s)]
      repeat (refine R_s kC9 rfl rfl ?_)
      refine R_ne kC9 rfl rfl rfl (by cases bt S s <;> decide) (by decide) (fun hd => ?_) (fun hd => ?_)
      · rw [if_neg (by rw [(b2i_ne1 _).mp hd]; decide)]
        exact goon i _ rfl hi
      · have hb : bt S s = true := by cases hq : bt S s with | true => rfl | false => rw [hq] at hd; cases hd
        rw [if_pos hb]
        repeat (refine R_s kC9 rfl rfl ?_)
        refine Z_ne kC9 rfl rfl (by omega) (fun h0 => ?_) (fun h0 => ?_)
        · rw [if_neg h0]
          iterate 1 (refine R_s kC9 rfl rfl ?_)
          exact goon (i - 1) _ (nI_dec (by omega)) (by omega)
        · rw [if_pos h0]
          repeat (refine R_s kC9 rfl rfl ?_)
          exact R_ri kC9 rfl ⟨rfl, rfl⟩
theorem sp_MO_family (d : Nat) (ho : h.2 76 = mob k fed pl le fi co) (hg : h.2 77 = ints 106 G) (hS : ∀ s, s < 32 → G (1 + s) = b2i (bt S s)) (v : Int32) : Cl d 186 [.ref 76, .int v] h (some (.int (famR S v))) h := by
  have kC9 := co_MO_family
  refine Cl_of kC9 rfl rfl ?_
  repeat (refine R_s kC9 rfl rfl ?_)
  refine Zr_ge kC9 rfl (fun hc => ?_) (fun hc => ?_)
  · have h0 : ¬ v < 0 := by
      rw [Int32.lt_iff_toInt_lt]
      rw [Int32.le_iff_toInt_le] at hc
      omega
    unfold famR
    rw [if_neg h0]
    obtain ⟨i, hi, rfl⟩ := nI_of h0
    rw [nI_clamp hi]
    iterate 4 (refine R_s kC9 rfl rfl ?_)
    exact lp_family d ho hg hS _ 31 1 i (by omega) hi
  · have h0 : v < 0 := by
      rw [Int32.lt_iff_toInt_lt]
      rw [Int32.le_iff_toInt_le] at hc
      omega
    unfold famR
    rw [if_pos h0]
    repeat (refine R_s kC9 rfl rfl ?_)
    exact R_ri kC9 rfl ⟨rfl, rfl⟩
theorem lp_within (d : Nat) (Q : Option Value → AH → Prop) (ho : h.2 76 = mob k fed pl le fi co) (hg : h.2 77 = ints 106 G) (hS : ∀ s, s < 32 → G (1 + s) = b2i (bt S s)) {set : Nat} (hset : set < 32) : ∀ (m s : Nat), s + m = 32 → R d 187 28 [some (.ref 76), some (.int (nI set)), some (.int (nI (cnt (wthB S set) 32))), some (.int (nI 32))] [] h Q → R d 187 4 [some (.ref 76), some (.int (nI set)), some (.int (nI (cnt (wthB S set) s))), some (.int (nI s))] [] h Q := by
  have kC9 := co_MO_within
  intro m
  induction m with
  | zero =>
    intro s hs kk
    have : s = 32 := by omega
    subst this
    repeat (refine R_s kC9 rfl rfl ?_)
    refine R_ge kC9 rfl (rfl) (rfl) (by omega) (by omega) (fun hc => ?_) (fun hc => ?_)
    · exact kk
    · omega
  | succ m ih =>
    intro s hs kk
    have goon : ∀ b : Bool, b = wthB S set s → R d 187 24 [some (.ref 76), some (.int (nI set)), some (.int (nI (cnt (wthB S set) s))), some (.int (nI s))] [.int (nI b.toNat), .int (nI (cnt (wthB S set) s))] h Q := by
      intro b hb
      subst hb
      repeat (refine R_s kC9 rfl rfl ?_)
      refine R_g kC9 rfl ?_
      refine (show R d 187 4 [some (.ref 76), some (.int (nI set)), some (.int (nI (cnt (wthB S set) s) + nI (wthB S set s).toNat)), some (.int (nI s + nI 1))] [] h Q from ?_)
      rw [nI_add, nI_add]
      exact ih (s + 1) (by omega) kk
    repeat (refine R_s kC9 rfl rfl ?_)
    refine R_ge kC9 rfl (rfl) (rfl) (by omega) (by omega) (fun hc => ?_) (fun hc => ?_)
    · omega
    · have h32 : s < 32 := by omega
      repeat (refine R_s kC9 rfl rfl ?_)
      refine R_get kC9 rfl (ho) rfl ?_
      repeat (refine R_s kC9 rfl rfl ?_)
      refine R_ild kC9 rfl (hg) (nI_add 1 s) (by omega) (by decide) ?_
      rw [hS s (by omega), b2i_nI (bt S s)]
      repeat (refine R_s kC9 rfl rfl ?_)
      refine R_ne kC9 rfl rfl rfl (by cases bt S s <;> decide) (by decide) (fun hd => ?_) (fun hd => ?_)
      · iterate 1 (refine R_s kC9 rfl rfl ?_)
        exact goon false (by unfold wthB; rw [(b2i_ne1 _).mp hd]; rfl)
      · have hb : bt S s = true := by cases hq : bt S s with | true => rfl | false => rw [hq] at hd; cases hd
        have hle : s &&& set ≤ s := Nat.and_le_left
        repeat (refine R_s kC9 rfl rfl ?_)
        refine R_ne kC9 rfl (nx_and s set) rfl (by omega) (by omega) (fun hd => ?_) (fun hd => ?_)
        · iterate 1 (refine R_s kC9 rfl rfl ?_)
          exact goon false (by unfold wthB; rw [hb, decide_eq_false hd]; rfl)
        · iterate 1 (refine R_s kC9 rfl rfl ?_)
          refine R_g kC9 rfl ?_
          exact goon true (by unfold wthB; rw [hb, decide_eq_true hd]; rfl)
theorem sp_MO_within (d : Nat) (ho : h.2 76 = mob k fed pl le fi co) (hg : h.2 77 = ints 106 G) (hS : ∀ s, s < 32 → G (1 + s) = b2i (bt S s)) (hb0 : bt S 0 = false) {set : Nat} (hset : set < 32) : Cl d 187 [.ref 76, .int (nI set)] h (some (.int (nI (cnt (wthB S set) 32)))) h := by
  have kC9 := co_MO_within
  refine Cl_of kC9 rfl rfl ?_
  iterate 4 (refine R_s kC9 rfl rfl ?_)
  have e1 : cnt (wthB S set) 1 = 0 := by simp [cnt, wthB, hb0]
  refine (show R d 187 4 [some (.ref 76), some (.int (nI set)), some (.int (nI 0)), some (.int (nI 1))] [] h _ from ?_)
  rw [← e1]
  refine lp_within d _ ho hg hS hset 31 1 (by omega) ?_
  repeat (refine R_s kC9 rfl rfl ?_)
  exact R_ri kC9 rfl ⟨rfl, rfl⟩
theorem lp_isPart (d : Nat) (ho : h.2 76 = mob k fed pl le fi co) (hg : h.2 77 = ints 106 G) (hS : ∀ s, s < 32 → G (1 + s) = b2i (bt S s)) {set s : Nat} (hset : set < 32) (hs32 : s < 32) : ∀ (m o : Nat) (b : Bool), o + m = 32 → 1 ≤ o → (b = true ↔ (bt S s = true ∧ s &&& set = s ∧ ∀ q, 1 ≤ q → q < o → q ≠ s → bt S q = true → q &&& set = q → s &&& q ≠ s)) → R d 188 19 [some (.ref 76), some (.int (nI set)), some (.int (nI s)), some (.int (b2i b)), some (.int (nI o))] [] h (fun r2 h2 => r2 = some (.int (b2i (pb (partP S set s)))) ∧ h2 = h) := by
  have kC9 := co_MO_isPart
  intro m
  induction m with
  | zero =>
    intro o b ho2 h1 hb
    have : o = 32 := by omega
    subst this
    repeat (refine R_s kC9 rfl rfl ?_)
    refine R_ge kC9 rfl (rfl) (rfl) (by omega) (by omega) (fun hc => ?_) (fun hc => ?_)
    · repeat (refine R_s kC9 rfl rfl ?_)
      have e : b = pb (partP S set s) := by
        unfold partP
        cases b with
        | true => exact (pb_true.mpr (hb.mp rfl)).symm
        | false => exact (pb_false.mpr (fun q => by have := hb.mpr q; cases this)).symm
      rw [e]
      exact R_rb kC9 rfl ⟨rfl, rfl⟩
    · omega
  | succ m ih =>
    intro o b ho2 h1 hb
    repeat (refine R_s kC9 rfl rfl ?_)
    refine R_ge kC9 rfl (rfl) (rfl) (by omega) (by omega) (fun hc => ?_) (fun hc => ?_)
    · omega
    · have h32 : o < 32 := by omega
      repeat (refine R_s kC9 rfl rfl ?_)
      refine ZB_eq kC9 rfl (fun hq => ?_) (fun hq => ?_)
      · repeat (refine R_s kC9 rfl rfl ?_)
        have e : b = pb (partP S set s) := by
          rw [hq]
          refine (pb_false.mpr (fun q => ?_)).symm
          have := hb.mpr ⟨q.1, q.2.1, fun x x1 x2 => q.2.2 x x1 (by omega)⟩
          rw [hq] at this
          cases this
        rw [e]
        exact R_rb kC9 rfl ⟨rfl, rfl⟩
      · obtain ⟨p1, p2, p3⟩ := hb.mp hq
        have goon : ∀ b' : Bool, (b' = true ↔ (o ≠ s → bt S o = true → o &&& set = o → s &&& o ≠ s)) → R d 188 47 [some (.ref 76), some (.int (nI set)), some (.int (nI s)), some (.int (b2i b)), some (.int (nI o))] [.int (b2i b')] h (fun r2 h2 => r2 = some (.int (b2i (pb (partP S set s)))) ∧ h2 = h) := by
          intro b' hb'
          repeat (refine R_s kC9 rfl rfl ?_)
          refine R_g kC9 rfl ?_
          refine (show R d 188 19 [some (.ref 76), some (.int (nI set)), some (.int (nI s)), some (.int (b2i b')), some (.int (nI o + nI 1))] [] h _ from ?_)
          rw [nI_add]
          refine ih (o + 1) b' (by omega) (by omega) (Iff.trans hb' ⟨fun q => ⟨p1, p2, fun x x1 x2 => ?_⟩, fun q => q.2.2 o h1 (by omega)⟩)
          rcases Nat.lt_or_ge x o with c1 | c1
          · exact p3 x x1 c1
          · have : x = o := by omega
            subst this
            exact q
        have yes : (o ≠ s → bt S o = true → o &&& set = o → s &&& o ≠ s) → R d 188 44 [some (.ref 76), some (.int (nI set)), some (.int (nI s)), some (.int (b2i b)), some (.int (nI o))] [] h (fun r2 h2 => r2 = some (.int (b2i (pb (partP S set s)))) ∧ h2 = h) := by
          intro q
          iterate 1 (refine R_s kC9 rfl rfl ?_)
          refine R_g kC9 rfl ?_
          exact goon true ⟨fun _ => q, fun _ => rfl⟩
        repeat (refine R_s kC9 rfl rfl ?_)
        refine R_eq kC9 rfl rfl rfl (by omega) (by omega) (fun e => yes (fun q => absurd e q)) (fun e1 => ?_)
        repeat (refine R_s kC9 rfl rfl ?_)
        refine R_get kC9 rfl (ho) rfl ?_
        repeat (refine R_s kC9 rfl rfl ?_)
        refine R_ild kC9 rfl (hg) (nI_add 1 o) (by omega) (by decide) ?_
        rw [hS o h32]
        refine ZB_eq kC9 rfl (fun e => yes (fun _ q => by rw [e] at q; cases q)) (fun e2 => ?_)
        have l1 : o &&& set ≤ o := Nat.and_le_left
        have l2 : s &&& o ≤ s := Nat.and_le_left
        repeat (refine R_s kC9 rfl rfl ?_)
        refine R_ne kC9 rfl (nx_and o set) rfl (by omega) (by omega) (fun e => yes (fun _ _ q => absurd q e)) (fun e3 => ?_)
        repeat (refine R_s kC9 rfl rfl ?_)
        refine R_eq kC9 rfl (nx_and s o) rfl (by omega) (by omega) (fun e => ?_) (fun e => yes (fun _ _ _ => e))
        iterate 1 (refine R_s kC9 rfl rfl ?_)
        exact goon false ⟨fun q => (by cases q), fun q => absurd e (q e1 e2 e3)⟩
theorem sp_MO_isPart (d : Nat) (ho : h.2 76 = mob k fed pl le fi co) (hg : h.2 77 = ints 106 G) (hS : ∀ s, s < 32 → G (1 + s) = b2i (bt S s)) {set s : Nat} (hset : set < 32) (hs32 : s < 32) : Cl d 188 [.ref 76, .int (nI set), .int (nI s)] h (some (.int (b2i (pb (partP S set s))))) h := by
  have kC9 := co_MO_isPart
  refine Cl_of kC9 rfl rfl ?_
  have goon : ∀ b : Bool, (b = true ↔ (bt S s = true ∧ s &&& set = s)) → R d 188 16 [some (.ref 76), some (.int (nI set)), some (.int (nI s)), none, none] [.int (b2i b)] h (fun r2 h2 => r2 = some (.int (b2i (pb (partP S set s)))) ∧ h2 = h) := by
    intro b hb
    iterate 3 (refine R_s kC9 rfl rfl ?_)
    exact lp_isPart d ho hg hS hset hs32 31 1 b (by omega) (by omega) (Iff.trans hb ⟨fun q => ⟨q.1, q.2, fun x x1 x2 => by omega⟩, fun q => ⟨q.1, q.2.1⟩⟩)
  repeat (refine R_s kC9 rfl rfl ?_)
  refine R_get kC9 rfl (ho) rfl ?_
  repeat (refine R_s kC9 rfl rfl ?_)
  refine R_ild kC9 rfl (hg) (nI_add 1 s) (by omega) (by decide) ?_
  rw [hS s (by omega), b2i_nI (bt S s)]
  repeat (refine R_s kC9 rfl rfl ?_)
  refine R_ne kC9 rfl rfl rfl (by cases bt S s <;> decide) (by decide) (fun hd => ?_) (fun hd => ?_)
  · iterate 1 (refine R_s kC9 rfl rfl ?_)
    exact goon false ⟨fun q => (by cases q), fun q => by rw [q.1] at hd; exact absurd rfl hd⟩
  · have hb : bt S s = true := by cases hq : bt S s with | true => rfl | false => rw [hq] at hd; cases hd
    have hle : s &&& set ≤ s := Nat.and_le_left
    repeat (refine R_s kC9 rfl rfl ?_)
    refine R_ne kC9 rfl (nx_and s set) rfl (by omega) (by omega) (fun e => ?_) (fun e => ?_)
    · iterate 1 (refine R_s kC9 rfl rfl ?_)
      exact goon false ⟨fun q => (by cases q), fun q => absurd q.2 e⟩
    · iterate 1 (refine R_s kC9 rfl rfl ?_)
      refine R_g kC9 rfl ?_
      exact goon true ⟨fun _ => ⟨hb, e⟩, fun _ => rfl⟩
theorem lp_partOf (d : Nat) (ho : h.2 76 = mob k fed pl le fi co) (hg : h.2 77 = ints 106 G) (hS : ∀ s, s < 32 → G (1 + s) = b2i (bt S s)) {set : Nat} (hset : set < 32) (v : Int32) : ∀ (m s i : Nat), s + m = 32 → i < 2 ^ 31 → R (d + 1) 189 4 [some (.ref 76), some (.int (nI set)), some (.int v), some (.int (nI i)), some (.int (nI s))] [] h (fun r2 h2 => r2 = some (.int (nthF (fun s => pb (partP S set s)) m s i)) ∧ h2 = h) := by
  have kC9 := co_MO_partOf
  intro m
  induction m with
  | zero =>
    intro s i hs hi
    have : s = 32 := by omega
    subst this
    repeat (refine R_s kC9 rfl rfl ?_)
    refine R_ge kC9 rfl (rfl) (rfl) (by omega) (by omega) (fun hc => ?_) (fun hc => ?_)
    · repeat (refine R_s kC9 rfl rfl ?_)
      exact R_ri kC9 rfl ⟨rfl, rfl⟩
    · omega
  | succ m ih =>
    intro s i hs hi
    rw [nthF_succ]
    have goon : ∀ (j : Nat) (v2 : Int32), v2 = nI j → j < 2 ^ 31 → R (d + 1) 189 17 [some (.ref 76), some (.int (nI set)), some (.int v), some (.int v2), some (.int (nI s))] [] h (fun r2 h2 => r2 = some (.int (nthF (fun s => pb (partP S set s)) m (s + 1) j)) ∧ h2 = h) := by
      intro j v2 e hj
      subst e
      repeat (refine R_s kC9 rfl rfl ?_)
      refine R_g kC9 rfl ?_
      refine (show R (d + 1) 189 4 [some (.ref 76), some (.int (nI set)), some (.int v), some (.int (nI j)), some (.int (nI s + nI 1))] [] h _ from ?_)
      rw [nI_add]
      exact ih (s + 1) j (by omega) hj
    repeat (refine R_s kC9 rfl rfl ?_)
    refine R_ge kC9 rfl (rfl) (rfl) (by omega) (by omega) (fun hc => ?_) (fun hc => ?_)
    · omega
    · repeat (refine R_s kC9 rfl rfl ?_)
      refine R_cv kC9 rfl rfl rfl rfl (ho) (by decide) (sp_MO_isPart d ho hg hS hset (by omega)) ?_
      refine ZB_eq kC9 rfl (fun hd => ?_) (fun hd => ?_)
      · rw [if_neg (by rw [hd]; decide)]
        exact goon i _ rfl hi
      · rw [if_pos hd]
        repeat (refine R_s kC9 rfl rfl ?_)
        refine Z_ne kC9 rfl rfl (by omega) (fun h0 => ?_) (fun h0 => ?_)
        · rw [if_neg h0]
          iterate 1 (refine R_s kC9 rfl rfl ?_)
          exact goon (i - 1) _ (nI_dec (by omega)) (by omega)
        · rw [if_pos h0]
          repeat (refine R_s kC9 rfl rfl ?_)
          exact R_ri kC9 rfl ⟨rfl, rfl⟩
theorem sp_MO_partOf (d : Nat) (ho : h.2 76 = mob k fed pl le fi co) (hg : h.2 77 = ints 106 G) (hS : ∀ s, s < 32 → G (1 + s) = b2i (bt S s)) {set i : Nat} (hset : set < 32) (hi : i < 2 ^ 31) : Cl (d + 1) 189 [.ref 76, .int (nI set), .int (nI i)] h (some (.int (nthF (fun s => pb (partP S set s)) 31 1 i))) h := by
  have kC9 := co_MO_partOf
  refine Cl_of kC9 rfl rfl ?_
  iterate 4 (refine R_s kC9 rfl rfl ?_)
  exact lp_partOf d ho hg hS hset _ 31 1 i (by omega) hi
noncomputable def partsN (S : Int32) (set : Nat) : Nat := cnt (fun s => pb (partP S set s)) 32
theorem lp_parts (d : Nat) (ho : h.2 76 = mob k fed pl le fi co) (hg : h.2 77 = ints 106 G) (hS : ∀ s, s < 32 → G (1 + s) = b2i (bt S s)) (hb0 : bt S 0 = false) {set : Nat} (hset : set < 32) : ∀ (m i : Nat), i + m = partsN S set → R (d + 2) 190 2 [some (.ref 76), some (.int (nI set)), some (.int (nI i))] [] h (fun r2 h2 => r2 = some (.int (nI (partsN S set))) ∧ h2 = h) := by
  have kC9 := co_MO_parts
  have hle : partsN S set ≤ 32 := cnt_le _ 32
  have e0 : pb (partP S set 0) = false := pb_false.mpr (fun q => by have := q.1; rw [hb0] at this; cases this)
  have e1 : cnt (fun s => pb (partP S set s)) 1 = 0 := by
    show 0 + (pb (partP S set 0)).toNat = 0
    rw [e0]; rfl
  have key : ∀ i, nthF (fun s => pb (partP S set s)) 31 1 i = -5 ↔ partsN S set ≤ i := by
    intro i
    rw [nthF_no _ 31 1 i (by omega), e1]
    unfold partsN
    rw [Nat.zero_add]
  intro m
  induction m with
  | zero =>
    intro i hi
    repeat (refine R_s kC9 rfl rfl ?_)
    refine R_cv kC9 rfl rfl rfl rfl (ho) (by decide) (sp_MO_partOf d ho hg hS hset (by omega)) ?_
    repeat (refine R_s kC9 rfl rfl ?_)
    refine Rr_eq kC9 rfl (fun e => ?_) (fun e => absurd ((key i).mpr (by omega)) e)
    repeat (refine R_s kC9 rfl rfl ?_)
    have : i = partsN S set := by omega
    rw [this]
    exact R_ri kC9 rfl ⟨rfl, rfl⟩
  | succ m ih =>
    intro i hi
    repeat (refine R_s kC9 rfl rfl ?_)
    refine R_cv kC9 rfl rfl rfl rfl (ho) (by decide) (sp_MO_partOf d ho hg hS hset (by omega)) ?_
    repeat (refine R_s kC9 rfl rfl ?_)
    refine Rr_eq kC9 rfl (fun e => ?_) (fun e => ?_)
    · have := (key i).mp e
      omega
    · iterate 1 (refine R_s kC9 rfl rfl ?_)
      refine R_g kC9 rfl ?_
      refine (show R (d + 2) 190 2 [some (.ref 76), some (.int (nI set)), some (.int (nI i + nI 1))] [] h _ from ?_)
      rw [nI_add]
      exact ih (i + 1) (by omega)
theorem sp_MO_parts (d : Nat) (ho : h.2 76 = mob k fed pl le fi co) (hg : h.2 77 = ints 106 G) (hS : ∀ s, s < 32 → G (1 + s) = b2i (bt S s)) (hb0 : bt S 0 = false) {set : Nat} (hset : set < 32) : Cl (d + 2) 190 [.ref 76, .int (nI set)] h (some (.int (nI (partsN S set)))) h := by
  have kC9 := co_MO_parts
  refine Cl_of kC9 rfl rfl ?_
  iterate 2 (refine R_s kC9 rfl rfl ?_)
  exact lp_parts d ho hg hS hb0 hset (partsN S set) 0 (by omega)
noncomputable def ofR (n : Nat) (S v w : Int32) : Int32 := if setB n v = true then (if w = 0 then b2i (bt S v.toNatClampNeg) else if w = 1 then nI (cnt (wthB S v.toNatClampNeg) 32) else if w = 2 then nI (partsN S v.toNatClampNeg) else if w = 3 then nI (pc v.toNatClampNeg) else -1) else -1
noncomputable def partR (n : Nat) (S v w : Int32) : Int32 := if setB n v = true ∧ ¬ w < 0 then nthF (fun s => pb (partP S v.toNatClampNeg s)) 31 1 w.toNatClampNeg else -1
theorem sw4 {v : Int32} (h : v.toInt = 0 ∨ v.toInt = 1 ∨ v.toInt = 2 ∨ v.toInt = 3 ∨ v.toInt < 0 ∨ 3 < v.toInt) : v = 0 ∨ v = 1 ∨ v = 2 ∨ v = 3 ∨ ((v.toInt < 0 ∨ 3 < v.toInt) ∧ v ≠ 0 ∧ v ≠ 1 ∧ v ≠ 2 ∧ v ≠ 3) := by
  have a0 : (0 : Int32).toInt = 0 := by decide
  have a1 : (1 : Int32).toInt = 1 := by decide
  have a2 : (2 : Int32).toInt = 2 := by decide
  have a3 : (3 : Int32).toInt = 3 := by decide
  rcases h with h | h | h | h | h
  · exact Or.inl (Int32.toInt_inj.mp (h.trans a0.symm))
  · exact Or.inr (Or.inl (Int32.toInt_inj.mp (h.trans a1.symm)))
  · exact Or.inr (Or.inr (Or.inl (Int32.toInt_inj.mp (h.trans a2.symm))))
  · exact Or.inr (Or.inr (Or.inr (Or.inl (Int32.toInt_inj.mp (h.trans a3.symm)))))
  · refine Or.inr (Or.inr (Or.inr (Or.inr ⟨h, ?_, ?_, ?_, ?_⟩))) <;> (rintro rfl; omega)
theorem sp_MO_of (d : Nat) (ho : h.2 76 = mob k fed pl le fi co) (hg : h.2 77 = ints 106 G) (hn : n ≤ 5) (h0 : G 0 = nI n) (hS : ∀ s, s < 32 → G (1 + s) = b2i (bt S s)) (hb0 : bt S 0 = false) (v w : Int32) : Cl (d + 3) 191 [.ref 76, .int v, .int w] h (some (.int (ofR n S v w))) h := by
  have kC9 := co_MO_of
  refine Cl_of kC9 rfl rfl ?_
  repeat (refine R_s kC9 rfl rfl ?_)
  refine R_cv kC9 rfl rfl rfl rfl (ho) (by decide) (sp_MO_isSet (d + 1) ho hg hn h0 v) ?_
  unfold ofR
  refine ZB_ne kC9 rfl (fun hc => ?_) (fun hc => ?_)
  · rw [if_pos hc]
    obtain ⟨s, h1, h2, h3, rfl⟩ := setB_of hn hc
    rw [nI_clamp (by omega)]
    repeat (refine R_s kC9 rfl rfl ?_)
    rcases sw4 (v := w) (by omega) with e | e | e | e | e
    · subst e
      refine R_sw kC9 rfl (t := 8) rfl ?_
      repeat (refine R_s kC9 rfl rfl ?_)
      refine R_get kC9 rfl (ho) rfl ?_
      repeat (refine R_s kC9 rfl rfl ?_)
      refine R_ild kC9 rfl (hg) (nI_add 1 s) (by omega) (by decide) ?_
      rw [hS s h3]
      exact R_ri kC9 rfl ⟨rfl, rfl⟩
    · subst e
      refine R_sw kC9 rfl (t := 15) rfl ?_
      repeat (refine R_s kC9 rfl rfl ?_)
      refine R_cv kC9 rfl rfl rfl rfl (ho) (by decide) (sp_MO_within (d + 2) ho hg hS hb0 h3) ?_
      exact R_ri kC9 rfl ⟨rfl, rfl⟩
    · subst e
      refine R_sw kC9 rfl (t := 19) rfl ?_
      repeat (refine R_s kC9 rfl rfl ?_)
      refine R_cv kC9 rfl rfl rfl rfl (ho) (by decide) (sp_MO_parts d ho hg hS hb0 h3) ?_
      exact R_ri kC9 rfl ⟨rfl, rfl⟩
    · subst e
      refine R_sw kC9 rfl (t := 23) rfl ?_
      repeat (refine R_s kC9 rfl rfl ?_)
      refine R_cs kC9 rfl rfl rfl rfl (sp_MO_bits (d + 2) h3 h) ?_
      exact R_ri kC9 rfl ⟨rfl, rfl⟩
    · refine R_sw kC9 rfl (t := 26) (by rw [if_pos (by omega)]; rfl) ?_
      repeat (refine R_s kC9 rfl rfl ?_)
      rw [if_neg e.2.1, if_neg e.2.2.1, if_neg e.2.2.2.1, if_neg e.2.2.2.2]
      exact R_ri kC9 rfl ⟨rfl, rfl⟩
  · rw [if_neg (by rw [hc]; decide)]
    repeat (refine R_s kC9 rfl rfl ?_)
    exact R_ri kC9 rfl ⟨rfl, rfl⟩
theorem sp_MO_part (d : Nat) (ho : h.2 76 = mob k fed pl le fi co) (hg : h.2 77 = ints 106 G) (hn : n ≤ 5) (h0 : G 0 = nI n) (hS : ∀ s, s < 32 → G (1 + s) = b2i (bt S s)) (v w : Int32) : Cl (d + 2) 192 [.ref 76, .int v, .int w] h (some (.int (partR n S v w))) h := by
  have kC9 := co_MO_part
  refine Cl_of kC9 rfl rfl ?_
  repeat (refine R_s kC9 rfl rfl ?_)
  refine R_cv kC9 rfl rfl rfl rfl (ho) (by decide) (sp_MO_isSet d ho hg hn h0 v) ?_
  unfold partR
  refine ZB_eq kC9 rfl (fun hc => ?_) (fun hc => ?_)
  · rw [if_neg (by rw [hc]; exact fun q => by cases q.1)]
    repeat (refine R_s kC9 rfl rfl ?_)
    exact R_ri kC9 rfl ⟨rfl, rfl⟩
  · obtain ⟨s, h1, h2, h3, rfl⟩ := setB_of hn hc
    repeat (refine R_s kC9 rfl rfl ?_)
    refine Zr_lt kC9 rfl (fun q => ?_) (fun q => ?_)
    · rw [if_neg (fun z => z.2 q)]
      repeat (refine R_s kC9 rfl rfl ?_)
      exact R_ri kC9 rfl ⟨rfl, rfl⟩
    · rw [if_pos ⟨hc, q⟩]
      obtain ⟨i, hi, rfl⟩ := nI_of q
      rw [nI_clamp (by omega), nI_clamp hi]
      repeat (refine R_s kC9 rfl rfl ?_)
      refine R_cv kC9 rfl rfl rfl rfl (ho) (by decide) (sp_MO_partOf d ho hg hS h3 hi) ?_
      refine R_g kC9 rfl ?_
      exact R_ri kC9 rfl ⟨rfl, rfl⟩
end
