/-! THE REFERENCE, 2: counts, points, lines -/
def cnt (P : Nat → Bool) : Nat → Nat
  | 0 => 0
  | k + 1 => cnt P k + (P k).toNat
theorem cnt_le (P : Nat → Bool) : ∀ k, cnt P k ≤ k
  | 0 => Nat.le_refl 0
  | k + 1 => by
    unfold cnt
    have := cnt_le P k
    cases P k <;> simp <;> omega
theorem cnt_congr {P P' : Nat → Bool} : ∀ (k : Nat), (∀ i, i < k → P i = P' i) → cnt P k = cnt P' k
  | 0, _ => rfl
  | k + 1, h => by
    unfold cnt
    rw [cnt_congr k (fun i hi => h i (by omega)), h k (by omega)]
theorem els_len (x : Int32) : (els x).length = cnt (bt x) 32 := by
  have : ∀ k, ((List.range k).filter (bt x)).length = cnt (bt x) k := by
    intro k
    induction k with
    | zero => rfl
    | succ k ih =>
      rw [List.range_succ, List.filter_append, List.length_append, ih]
      have e : (List.filter (bt x) [k]).length = (bt x k).toNat := by cases h : bt x k <;> simp [List.filter, h]
      rw [e]
      rfl
  exact this 32
theorem b2i_nI (b : Bool) : b2i b = nI b.toNat := by cases b <;> rfl
theorem b2i_ne1 (b : Bool) : (¬ b.toNat = 1) ↔ b = false := by cases b <;> simp
section
variable {h : AH} {k fed pl le fi co : Int32} {G : Nat → Int32} {n : Nat} {S : Int32}
theorem lp_sets (d : Nat) (Q : Option Value → AH → Prop) (ho : h.2 76 = mob k fed pl le fi co) (hg : h.2 77 = ints 106 G) (hS : ∀ s, s < 32 → G (1 + s) = b2i (bt S s)) : ∀ (m s : Nat), s + m = 32 → R d 158 18 [some (.ref 76), some (.int (nI (cnt (bt S) 32))), some (.int (nI 32))] [] h Q → R d 158 4 [some (.ref 76), some (.int (nI (cnt (bt S) s))), some (.int (nI s))] [] h Q := by
  have kC9 := co_MO_sets
  intro m
  induction m with
  | zero =>
    intro s hs kk
    have : s = 32 := by omega
    subst this
    repeat (refine R_s kC9 rfl rfl ?_)
    refine R_ge kC9 rfl (rfl) (rfl) (by omega) (by omega) (fun hc => ?_) (fun hc => ?_)
    · exact kk
    · omega
  | succ m ih =>
    intro s hs kk
    repeat (refine R_s kC9 rfl rfl ?_)
    refine R_ge kC9 rfl (rfl) (rfl) (by omega) (by omega) (fun hc => ?_) (fun hc => ?_)
    · omega
    · repeat (refine R_s kC9 rfl rfl ?_)
      refine R_get kC9 rfl (ho) rfl ?_
      repeat (refine R_s kC9 rfl rfl ?_)
      refine R_ild kC9 rfl (hg) (nI_add 1 s) (by omega) (by decide) ?_
      rw [hS s (by omega), b2i_nI]
      repeat (refine R_s kC9 rfl rfl ?_)
      refine R_g kC9 rfl ?_
      refine (show R d 158 4 [some (.ref 76), some (.int (nI (cnt (bt S) s) + nI (bt S s).toNat)), some (.int (nI s + nI 1))] [] h Q from ?_)
      rw [nI_add, nI_add]
      exact ih (s + 1) (by omega) kk
theorem sp_MO_sets (d : Nat) (ho : h.2 76 = mob k fed pl le fi co) (hg : h.2 77 = ints 106 G) (hS : ∀ s, s < 32 → G (1 + s) = b2i (bt S s)) (hb0 : bt S 0 = false) : Cl d 158 [.ref 76] h (some (.int (nI (els S).length))) h := by
  have kC9 := co_MO_sets
  refine Cl_of kC9 rfl rfl ?_
  iterate 4 (refine R_s kC9 rfl rfl ?_)
  have e1 : cnt (bt S) 1 = 0 := by simp [cnt, hb0]
  refine (show R d 158 4 [some (.ref 76), some (.int (nI 0)), some (.int (nI 1))] [] h _ from ?_)
  rw [← e1]
  refine lp_sets d _ ho hg hS 31 1 (by omega) ?_
  repeat (refine R_s kC9 rfl rfl ?_)
  exact R_ri kC9 rfl ⟨ri_eq (by rw [els_len]), rfl⟩
/-- v is a set of the family -/
def inF (n : Nat) (S v : Int32) : Bool := setB n v && bt S v.toNatClampNeg
theorem inF_nI {n s : Nat} {S : Int32} (hs : s < 2 ^ 31) : inF n S (nI s) = (decide (1 ≤ s ∧ s < 2 ^ n) && bt S s) := by
  unfold inF
  rw [setB_nI hs, nI_clamp hs]
theorem sp_MO_isThere (d : Nat) (ho : h.2 76 = mob k fed pl le fi co) (hg : h.2 77 = ints 106 G) (hn : n ≤ 5) (h0 : G 0 = nI n) (hS : ∀ s, s < 32 → G (1 + s) = b2i (bt S s)) (v : Int32) : Cl (d + 2) 156 [.ref 76, .int v] h (some (.int (b2i (inF n S v)))) h := by
  have kC9 := co_MO_isThere
  refine Cl_of kC9 rfl rfl ?_
  repeat (refine R_s kC9 rfl rfl ?_)
  refine R_cv kC9 rfl rfl rfl rfl (ho) (by decide) (sp_MO_isSet d ho hg hn h0 v) ?_
  refine ZB_eq kC9 rfl (fun hc => ?_) (fun hc => ?_)
  · repeat (refine R_s kC9 rfl rfl ?_)
    exact R_rz kC9 rfl (Or.inl rfl) ⟨ri_eq (b2i_f (by unfold inF; rw [hc]; rfl)), rfl⟩
  · obtain ⟨s, h1, h2, h3, rfl⟩ := setB_of hn hc
    repeat (refine R_s kC9 rfl rfl ?_)
    refine R_get kC9 rfl (ho) rfl ?_
    repeat (refine R_s kC9 rfl rfl ?_)
    refine R_ild kC9 rfl (hg) (nI_add 1 s) (by omega) (by decide) ?_
    rw [hS s h3, b2i_nI]
    repeat (refine R_s kC9 rfl rfl ?_)
    refine R_ne kC9 rfl rfl rfl (by cases bt S s <;> decide) (by decide) (fun hd => ?_) (fun hd => ?_)
    · repeat (refine R_s kC9 rfl rfl ?_)
      exact R_rz kC9 rfl (Or.inl rfl) ⟨ri_eq (b2i_f (by unfold inF; rw [nI_clamp (by omega), (b2i_ne1 _).mp hd, Bool.and_false])), rfl⟩
    · repeat (refine R_s kC9 rfl rfl ?_)
      refine R_g kC9 rfl ?_
      have hb : bt S s = true := by cases hq : bt S s with | true => rfl | false => rw [hq] at hd; cases hd
      exact R_rz kC9 rfl (Or.inr rfl) ⟨ri_eq (b2i_t (by unfold inF; rw [hc, nI_clamp (by omega), hb]; rfl)), rfl⟩
/-- v is a point -/
def ptB (n : Nat) (v : Int32) : Bool := decide (0 ≤ v.toInt ∧ v.toInt < n)
theorem ptB_of {n : Nat} {v : Int32} (h : ptB n v = true) : ∃ p, p < n ∧ p < 2 ^ 31 ∧ v = nI p := by
  unfold ptB at h
  rw [decide_eq_true_eq] at h
  have h0 : ¬ v < 0 := by
    rw [Int32.lt_iff_toInt_lt]
    have : (0 : Int32).toInt = 0 := by decide
    omega
  obtain ⟨p, hp, rfl⟩ := nI_of h0
  rw [nI_toInt hp] at h
  exact ⟨p, by omega, hp, rfl⟩
theorem ptB_nI {n p : Nat} (hp : p < 2 ^ 31) : ptB n (nI p) = decide (p < n) := by
  unfold ptB
  rw [nI_toInt hp]
  congr 1
  apply propext
  omega
theorem sp_MO_isPoint (d : Nat) (ho : h.2 76 = mob k fed pl le fi co) (hg : h.2 77 = ints 106 G) (hn : n ≤ 5) (hn1 : 1 ≤ n) (h0 : G 0 = nI n) (v : Int32) : Cl (d + 1) 157 [.ref 76, .int v] h (some (.int (b2i (ptB n v)))) h := by
  have kC9 := co_MO_isPoint
  refine Cl_of kC9 rfl rfl ?_
  repeat (refine R_s kC9 rfl rfl ?_)
  refine R_get kC9 rfl (ho) rfl ?_
  repeat (refine R_s kC9 rfl rfl ?_)
  refine R_ild kC9 rfl (hg) (rfl) (by decide) (by decide) ?_
  rw [h0]
  repeat (refine R_s kC9 rfl rfl ?_)
  refine R_cs kC9 rfl rfl rfl rfl (sp_MO_isIn d _ _ _ h) ?_
  repeat (refine R_s kC9 rfl rfl ?_)
  refine R_rb kC9 rfl ⟨ri_eq ?_, rfl⟩
  congr 1
  unfold ptB
  rw [pk_sub hn1, Int32.toInt_toInt64, Int32.toInt_toInt64, nI_toInt (by omega)]
  have e1 : (0 : Int64).toInt = 0 := by decide
  rw [e1]
  congr 1
  apply propext
  omega
def twoB (n : Nat) (a b : Int32) : Bool := ptB n a && ptB n b && !decide (a = b)
theorem sp_MO_areTwo (d : Nat) (ho : h.2 76 = mob k fed pl le fi co) (hg : h.2 77 = ints 106 G) (hn : n ≤ 5) (hn1 : 1 ≤ n) (h0 : G 0 = nI n) (v w : Int32) : Cl (d + 2) 172 [.ref 76, .int v, .int w] h (some (.int (b2i (twoB n v w)))) h := by
  have kC9 := co_MO_areTwo
  refine Cl_of kC9 rfl rfl ?_
  repeat (refine R_s kC9 rfl rfl ?_)
  refine R_cv kC9 rfl rfl rfl rfl (ho) (by decide) (sp_MO_isPoint d ho hg hn hn1 h0 v) ?_
  refine ZB_eq kC9 rfl (fun hc => ?_) (fun hc => ?_)
  · repeat (refine R_s kC9 rfl rfl ?_)
    exact R_rz kC9 rfl (Or.inl rfl) ⟨ri_eq (b2i_f (by unfold twoB; rw [hc]; rfl)), rfl⟩
  · have h1 := hc
    repeat (refine R_s kC9 rfl rfl ?_)
    refine R_cv kC9 rfl rfl rfl rfl (ho) (by decide) (sp_MO_isPoint d ho hg hn hn1 h0 w) ?_
    refine ZB_eq kC9 rfl (fun hc => ?_) (fun hc => ?_)
    · repeat (refine R_s kC9 rfl rfl ?_)
      exact R_rz kC9 rfl (Or.inl rfl) ⟨ri_eq (b2i_f (by unfold twoB; rw [hc, h1]; rfl)), rfl⟩
    · have h2 := hc
      repeat (refine R_s kC9 rfl rfl ?_)
      refine Rr_eq kC9 rfl (fun hc => ?_) (fun hc => ?_)
      · repeat (refine R_s kC9 rfl rfl ?_)
        exact R_rz kC9 rfl (Or.inl rfl) ⟨ri_eq (b2i_f (by unfold twoB; rw [h1, h2, decide_eq_true hc]; rfl)), rfl⟩
      · repeat (refine R_s kC9 rfl rfl ?_)
        refine R_g kC9 rfl ?_
        exact R_rz kC9 rfl (Or.inr rfl) ⟨ri_eq (b2i_t (by unfold twoB; rw [h1, h2, decide_eq_false hc]; rfl)), rfl⟩
def lnX (a b : Nat) : Nat := if a < b then 5 * a + b else 5 * b + a
theorem sp_MO_lineAt (d : Nat) {a b : Nat} (ha : a < 10) (hb : b < 10) : Cl d 161 [.ref 76, .int (nI a), .int (nI b)] h (some (.int (nI (33 + lnX a b)))) h := by
  have kC9 := co_MO_lineAt
  refine Cl_of kC9 rfl rfl ?_
  repeat (refine R_s kC9 rfl rfl ?_)
  refine R_ge kC9 rfl (rfl) (rfl) (by omega) (by omega) (fun hc => ?_) (fun hc => ?_)
  · repeat (refine R_s kC9 rfl rfl ?_)
    exact R_ri kC9 rfl ⟨ri_eq (by rw [pk_mul, nI_add, nI_add]; congr 1; unfold lnX; rw [if_neg (by omega)]; omega), rfl⟩
  · repeat (refine R_s kC9 rfl rfl ?_)
    refine R_g kC9 rfl ?_
    exact R_ri kC9 rfl ⟨ri_eq (by rw [pk_mul, nI_add, nI_add]; congr 1; unfold lnX; rw [if_pos hc]; omega), rfl⟩
def runB (v : Int32) : Bool := decide ((v + (v &&& -v)) &&& v = 0)
theorem sp_MO_isRun (d : Nat) (v : Int32) : Cl d 163 [.int v] h (some (.int (b2i (runB v)))) h := by
  have kC9 := co_MO_isRun
  refine Cl_of kC9 rfl rfl ?_
  repeat (refine R_s kC9 rfl rfl ?_)
  refine Zr_ne kC9 rfl (fun hc => ?_) (fun hc => ?_)
  · repeat (refine R_s kC9 rfl rfl ?_)
    exact R_rz kC9 rfl (Or.inl rfl) ⟨ri_eq (b2i_f (decide_eq_false hc)), rfl⟩
  · repeat (refine R_s kC9 rfl rfl ?_)
    refine R_g kC9 rfl ?_
    exact R_rz kC9 rfl (Or.inr rfl) ⟨ri_eq (b2i_t (decide_eq_true hc)), rfl⟩
end
