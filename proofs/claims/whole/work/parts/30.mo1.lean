/-! THE REFERENCE, 1: small questions -/
theorem ri_eq {u v : Int32} (h : u = v) : some (Value.int u) = some (Value.int v) := by rw [h]
theorem b2i_t {b : Bool} (h : b = true) : nI 1 = b2i b := by rw [h]; rfl
theorem b2i_f {b : Bool} (h : b = false) : nI 0 = b2i b := by rw [h]; rfl
theorem lg_lt0 (x y : Int64) : lg_cmp x y < 0 ↔ x < y := by
  unfold lg_cmp
  split
  · rename_i h
    constructor
    · intro q; exact absurd q (by decide)
    · intro q; exact absurd (Int64.lt_trans q h) (Int64.lt_irrefl)
  · rename_i h
    split
    · rename_i h2
      subst h2
      constructor
      · intro q; exact absurd q (by decide)
      · intro q; exact absurd q (Int64.lt_irrefl)
    · rename_i h2
      constructor
      · intro _
        exact Int64.lt_of_le_of_ne (Int64.not_lt.mp h) h2
      · intro _; decide
theorem lg_gt0 (x y : Int64) : 0 < lg_cmp x y ↔ y < x := by
  unfold lg_cmp
  split
  · rename_i h
    exact ⟨fun _ => h, fun _ => by decide⟩
  · rename_i h
    split
    · constructor
      · intro q; exact absurd q (by decide)
      · intro q; exact absurd q h
    · constructor
      · intro q; exact absurd q (by decide)
      · intro q; exact absurd q h
theorem sp_MO_isIn (d : Nat) (v a b : Int64) (h : AH) : Cl d 150 [.long v, .long a, .long b] h (some (.int (b2i (decide (a.toInt ≤ v.toInt ∧ v.toInt ≤ b.toInt))))) h := by
  have kC9 := co_MO_isIn
  refine Cl_of kC9 rfl rfl ?_
  repeat (refine R_s kC9 rfl rfl ?_)
  refine Zr_lt kC9 rfl (fun hc => ?_) (fun hc => ?_)
  · repeat (refine R_s kC9 rfl rfl ?_)
    exact R_rz kC9 rfl (Or.inl rfl) ⟨ri_eq (b2i_f (by rw [lg_lt0, Int64.lt_iff_toInt_lt] at hc; exact decide_eq_false (by omega))), rfl⟩
  · repeat (refine R_s kC9 rfl rfl ?_)
    have h1 := hc
    refine Zr_gt kC9 rfl (fun hc => ?_) (fun hc => ?_)
    · repeat (refine R_s kC9 rfl rfl ?_)
      exact R_rz kC9 rfl (Or.inl rfl) ⟨ri_eq (b2i_f (by rw [lg_gt0, Int64.lt_iff_toInt_lt] at hc; exact decide_eq_false (by omega))), rfl⟩
    · repeat (refine R_s kC9 rfl rfl ?_)
      refine R_g kC9 rfl ?_
      exact R_rz kC9 rfl (Or.inr rfl) ⟨ri_eq (b2i_t (by rw [lg_lt0, Int64.lt_iff_toInt_lt] at h1; rw [lg_gt0, Int64.lt_iff_toInt_lt] at hc; exact decide_eq_true (by omega))), rfl⟩
theorem sp_MO_has (d : Nat) {s k : Nat} (hs : s < 2 ^ 31) (hk : k < 32) (h : AH) : Cl d 151 [.int (nI s), .int (nI k)] h (some (.int (b2i (s.testBit k)))) h := by
  have kC9 := co_MO_has
  refine Cl_of kC9 rfl rfl ?_
  repeat (refine R_s kC9 rfl rfl ?_)
  refine R_ne kC9 rfl (nI_has hk hs) rfl (by cases s.testBit k <;> decide) (by decide) (fun hc => ?_) (fun hc => ?_)
  · repeat (refine R_s kC9 rfl rfl ?_)
    exact R_rz kC9 rfl (Or.inl rfl) ⟨ri_eq (b2i_f (by cases hb : s.testBit k with | true => rw [hb] at hc; exact absurd rfl hc | false => rfl)), rfl⟩
  · repeat (refine R_s kC9 rfl rfl ?_)
    refine R_g kC9 rfl ?_
    exact R_rz kC9 rfl (Or.inr rfl) ⟨ri_eq (b2i_t (by cases hb : s.testBit k with | true => rfl | false => rw [hb] at hc; cases hc)), rfl⟩
/-- the number of points of a set -/
def pc (s : Nat) : Nat := (s % 2) + (s / 2 % 2) + (s / 4 % 2) + (s / 8 % 2) + (s / 16 % 2)
theorem pc_step : ∀ s, s < 32 → s ≠ 0 → s &&& (s - 1) < s ∧ pc s = pc (s &&& (s - 1)) + 1 := by decide +kernel
theorem lp_bits (d : Nat) (h : AH) (Q : Option Value → AH → Prop) (v : Int32) : ∀ (k s n : Nat), s ≤ k → s < 32 → R d 152 14 [some (.int v), some (.int (nI (n + pc s))), some (.int (nI 0))] [] h Q → R d 152 4 [some (.int v), some (.int (nI n)), some (.int (nI s))] [] h Q := by
  have kC9 := co_MO_bits
  intro k
  induction k with
  | zero =>
    intro s n hk hs kk
    have : s = 0 := by omega
    subst this
    repeat (refine R_s kC9 rfl rfl ?_)
    refine Z_eq kC9 rfl (rfl) (by omega) (fun hc => ?_) (fun hc => ?_)
    · exact kk
    · omega
  | succ k ih =>
    intro s n hk hs kk
    repeat (refine R_s kC9 rfl rfl ?_)
    refine Z_eq kC9 rfl (rfl) (by omega) (fun hc => ?_) (fun hc => ?_)
    · subst hc
      exact kk
    · obtain ⟨h1, h2⟩ := pc_step s hs hc
      repeat (refine R_s kC9 rfl rfl ?_)
      refine R_g kC9 rfl ?_
      have e1 : nI s &&& (nI s - nI 1) = nI (s &&& (s - 1)) := by rw [pk_sub (by omega), nx_and]
      refine (show R d 152 4 [some (.int v), some (.int (nI n + nI 1)), some (.int (nI s &&& (nI s - nI 1)))] [] h Q from ?_)
      rw [e1, nI_add]
      refine ih (s &&& (s - 1)) (n + 1) (by omega) (by omega) ?_
      rw [show n + 1 + pc (s &&& (s - 1)) = n + pc s by omega]
      exact kk
theorem sp_MO_bits (d : Nat) {s : Nat} (hs : s < 32) (h : AH) : Cl d 152 [.int (nI s)] h (some (.int (nI (pc s)))) h := by
  have kC9 := co_MO_bits
  refine Cl_of kC9 rfl rfl ?_
  iterate 4 (refine R_s kC9 rfl rfl ?_)
  refine lp_bits d h _ (nI s) 32 s 0 (by omega) hs ?_
  repeat (refine R_s kC9 rfl rfl ?_)
  exact R_ri kC9 rfl ⟨ri_eq (by rw [Nat.zero_add]), rfl⟩
/-- the reference's object: isKept, fed, place, letter, figures, corners -/
abbrev mob (k fed pl le fi co : Int32) : AC := objA 8 [.ref 77, .ref 78, .ref 79, .int k, .ref 80, .ref 81, .ref 82, .int fed, .int pl, .int le, .int fi, .ref 83, .ref 84, .ref 85, .ref 86, .ref 87, .int co, .ref 88, .ref 89, .ref 90, .ref 91, .ref 92, .ref 93, .ref 94]
section
variable {h : AH} {k fed pl le fi co : Int32} {G : Nat → Int32}
theorem sp_MO_whole (d : Nat) (ho : h.2 76 = mob k fed pl le fi co) (hg : h.2 77 = ints 106 G) {n : Nat} (hn : n ≤ 5) (h0 : G 0 = nI n) : Cl d 154 [.ref 76] h (some (.int (nI (2 ^ n - 1)))) h := by
  have kC9 := co_MO_whole
  refine Cl_of kC9 rfl rfl ?_
  repeat (refine R_s kC9 rfl rfl ?_)
  refine R_get kC9 rfl (ho) rfl ?_
  repeat (refine R_s kC9 rfl rfl ?_)
  refine R_ild kC9 rfl (hg) (rfl) (by decide) (by decide) ?_
  rw [h0]
  repeat (refine R_s kC9 rfl rfl ?_)
  exact R_ri kC9 rfl ⟨ri_eq (by rw [nI_shl (by omega), Nat.one_shiftLeft, pk_sub (Nat.one_le_two_pow)]), rfl⟩
/-- v is a set of n points -/
def setB (n : Nat) (v : Int32) : Bool := decide (1 ≤ v.toInt ∧ v.toInt < 2 ^ n)
theorem setB_of {n : Nat} {v : Int32} (hn : n ≤ 5) (h : setB n v = true) : ∃ s, 1 ≤ s ∧ s < 2 ^ n ∧ s < 32 ∧ v = nI s := by
  unfold setB at h
  rw [decide_eq_true_eq] at h
  obtain ⟨h1, h2⟩ := h
  have h0 : ¬ v < 0 := by
    rw [Int32.lt_iff_toInt_lt]
    have : (0 : Int32).toInt = 0 := by decide
    omega
  obtain ⟨s, hs, rfl⟩ := nI_of h0
  rw [nI_toInt hs] at h1 h2
  have hp : (2 : Nat) ^ n ≤ 2 ^ 5 := Nat.pow_le_pow_right (by omega) hn
  refine ⟨s, by omega, ?_, ?_, rfl⟩
  · have : ((s : Int) < ((2 ^ n : Nat) : Int)) := by push_cast; exact h2
    omega
  · have : ((s : Int) < ((2 ^ n : Nat) : Int)) := by push_cast; exact h2
    omega
theorem setB_nI {n s : Nat} (hs : s < 2 ^ 31) : setB n (nI s) = decide (1 ≤ s ∧ s < 2 ^ n) := by
  unfold setB
  rw [nI_toInt hs]
  congr 1
  apply propext
  constructor
  · rintro ⟨a, b⟩
    have : ((s : Int) < ((2 ^ n : Nat) : Int)) := by push_cast; exact b
    omega
  · rintro ⟨a, b⟩
    refine ⟨by omega, ?_⟩
    have : ((s : Int) < ((2 ^ n : Nat) : Int)) := by omega
    push_cast at this
    exact this
theorem sp_MO_isSet (d : Nat) (ho : h.2 76 = mob k fed pl le fi co) (hg : h.2 77 = ints 106 G) {n : Nat} (hn : n ≤ 5) (h0 : G 0 = nI n) (v : Int32) : Cl (d + 1) 155 [.ref 76, .int v] h (some (.int (b2i (setB n v)))) h := by
  have kC9 := co_MO_isSet
  refine Cl_of kC9 rfl rfl ?_
  repeat (refine R_s kC9 rfl rfl ?_)
  refine R_cv kC9 rfl rfl rfl rfl (ho) (by decide) (sp_MO_whole d ho hg hn h0) ?_
  repeat (refine R_s kC9 rfl rfl ?_)
  refine R_cs kC9 rfl rfl rfl rfl (sp_MO_isIn d _ _ _ h) ?_
  repeat (refine R_s kC9 rfl rfl ?_)
  refine R_rb kC9 rfl ⟨ri_eq ?_, rfl⟩
  congr 1
  unfold setB
  have hp : (1 : Nat) ≤ 2 ^ n := Nat.one_le_two_pow
  have hp5 : (2 : Nat) ^ n ≤ 2 ^ 5 := Nat.pow_le_pow_right (by omega) hn
  rw [Int32.toInt_toInt64, Int32.toInt_toInt64, nI_toInt (by omega)]
  have e1 : (1 : Int64).toInt = 1 := by decide
  rw [e1]
  congr 1
  apply propext
  have e3 : ((2 ^ n : Nat) : Int) = 2 ^ n := by push_cast; rfl
  have e2 : ((2 ^ n - 1 : Nat) : Int) = 2 ^ n - 1 := by omega
  constructor
  · rintro ⟨a, b⟩
    exact ⟨a, by omega⟩
  · rintro ⟨a, b⟩
    exact ⟨a, by omega⟩
end
