/-! THE CLASS, 7: Family: what it tells -/
def FamC (h : AH) (o n : Nat) (S Lm : Int32) : Prop := 3 ≤ o ∧ h.2 o = objA 2 [.int (nI n), .int S, .int Lm]
theorem tI_lt {x y : Int32} : x < y ↔ x.toInt < y.toInt := Int32.lt_iff_toInt_lt
theorem tI_le {x y : Int32} : x ≤ y ↔ x.toInt ≤ y.toInt := Int32.le_iff_toInt_le
theorem tI_0 : (0 : Int32).toInt = 0 := by decide
theorem tI_1 : (nI 1).toInt = 1 := by decide
section
variable {h : AH} {o n : Nat} {S Lm : Int32}
theorem sp_FA_whole (d : Nat) (hF : FamC h o n S Lm) (hn : n ≤ 5) : Cl d 32 [.ref o] h (some (.int (nI (2 ^ n - 1)))) h := by
  have kC9 := co_FA_whole
  refine Cl_of kC9 rfl rfl ?_
  repeat (refine R_s kC9 rfl rfl ?_)
  refine R_get kC9 rfl (hF.2) rfl ?_
  repeat (refine R_s kC9 rfl rfl ?_)
  exact R_ri kC9 rfl ⟨ri_eq (by rw [nI_shl (by omega), Nat.one_shiftLeft, pk_sub (Nat.one_le_two_pow)]), rfl⟩
theorem sp_FA_size (d : Nat) (hF : FamC h o n S Lm) : Cl (d + 1) 33 [.ref o] h (some (.int (nI (els S).length))) h := by
  have kC9 := co_FA_size
  refine Cl_of kC9 rfl rfl ?_
  repeat (refine R_s kC9 rfl rfl ?_)
  refine R_get kC9 rfl (hF.2) rfl ?_
  refine R_cs kC9 rfl rfl rfl rfl (sp_JI_bitCount d h S) ?_
  rw [els_len]
  exact R_ri kC9 rfl ⟨rfl, rfl⟩
theorem sp_FA_isPoint (d : Nat) (hF : FamC h o n S Lm) (hn : n ≤ 5) (v : Int32) : Cl d 34 [.ref o, .int v] h (some (.int (b2i (ptB n v)))) h := by
  have kC9 := co_FA_isPoint
  refine Cl_of kC9 rfl rfl ?_
  have en : (nI n).toInt = (n : Int) := nI_toInt (by omega)
  repeat (refine R_s kC9 rfl rfl ?_)
  refine Zr_lt kC9 rfl (fun hc => ?_) (fun hc => ?_)
  · rw [tI_lt, tI_0] at hc
    repeat (refine R_s kC9 rfl rfl ?_)
    exact R_rz kC9 rfl (Or.inl rfl) ⟨ri_eq (b2i_f (decide_eq_false (by omega))), rfl⟩
  · rw [tI_lt, tI_0] at hc
    repeat (refine R_s kC9 rfl rfl ?_)
    refine R_get kC9 rfl (hF.2) rfl ?_
    refine Rr_ge kC9 rfl (fun hd => ?_) (fun hd => ?_)
    · rw [tI_le] at hd
      repeat (refine R_s kC9 rfl rfl ?_)
      exact R_rz kC9 rfl (Or.inl rfl) ⟨ri_eq (b2i_f (decide_eq_false (by omega))), rfl⟩
    · rw [tI_le] at hd
      repeat (refine R_s kC9 rfl rfl ?_)
      refine R_g kC9 rfl ?_
      exact R_rz kC9 rfl (Or.inr rfl) ⟨ri_eq (b2i_t (decide_eq_true (by omega))), rfl⟩
theorem sp_FA_isPair (d : Nat) (hF : FamC h o n S Lm) (hn : n ≤ 5) (v w : Int32) : Cl (d + 1) 35 [.ref o, .int v, .int w] h (some (.int (b2i (twoB n v w)))) h := by
  have kC9 := co_FA_isPair
  refine Cl_of kC9 rfl rfl ?_
  unfold twoB
  repeat (refine R_s kC9 rfl rfl ?_)
  refine R_cv kC9 rfl rfl rfl rfl hF.2 hF.1 (sp_FA_isPoint d hF hn v) ?_
  refine ZB_eq kC9 rfl (fun hc => ?_) (fun hc => ?_)
  · repeat (refine R_s kC9 rfl rfl ?_)
    rw [hc]
    exact R_rz kC9 rfl (Or.inl rfl) ⟨ri_eq (b2i_f (rfl)), rfl⟩
  · rw [hc]
    repeat (refine R_s kC9 rfl rfl ?_)
    refine R_cv kC9 rfl rfl rfl rfl hF.2 hF.1 (sp_FA_isPoint d hF hn w) ?_
    refine ZB_eq kC9 rfl (fun hd => ?_) (fun hd => ?_)
    · repeat (refine R_s kC9 rfl rfl ?_)
      rw [hd]
      exact R_rz kC9 rfl (Or.inl rfl) ⟨ri_eq (b2i_f (rfl)), rfl⟩
    · rw [hd]
      repeat (refine R_s kC9 rfl rfl ?_)
      refine Rr_eq kC9 rfl (fun he => ?_) (fun he => ?_)
      · repeat (refine R_s kC9 rfl rfl ?_)
        exact R_rz kC9 rfl (Or.inl rfl) ⟨ri_eq (b2i_f (by simp [he])), rfl⟩
      · repeat (refine R_s kC9 rfl rfl ?_)
        refine R_g kC9 rfl ?_
        exact R_rz kC9 rfl (Or.inr rfl) ⟨ri_eq (b2i_t (by simp [he])), rfl⟩
theorem sp_FA_isSet (d : Nat) (hF : FamC h o n S Lm) (hn : n ≤ 5) (v : Int32) : Cl (d + 1) 36 [.ref o, .int v] h (some (.int (b2i (setB n v)))) h := by
  have kC9 := co_FA_isSet
  refine Cl_of kC9 rfl rfl ?_
  have p5 := pow5 hn
  have p1 : 1 ≤ 2 ^ n := Nat.one_le_two_pow
  have en : (nI (2 ^ n - 1)).toInt = ((2 ^ n - 1 : Nat) : Int) := nI_toInt (by omega)
  have ec : ((2 : Int) ^ n) = ((2 ^ n : Nat) : Int) := by simp
  repeat (refine R_s kC9 rfl rfl ?_)
  refine Rr_lt kC9 rfl (fun hd => ?_) (fun hd => ?_)
  · rw [tI_lt, tI_1] at hd
    repeat (refine R_s kC9 rfl rfl ?_)
    exact R_rz kC9 rfl (Or.inl rfl) ⟨ri_eq (b2i_f (decide_eq_false (by omega))), rfl⟩
  · rw [tI_lt, tI_1] at hd
    repeat (refine R_s kC9 rfl rfl ?_)
    refine R_cv kC9 rfl rfl rfl rfl hF.2 hF.1 (sp_FA_whole d hF hn) ?_
    refine Rr_gt kC9 rfl (fun he => ?_) (fun he => ?_)
    · rw [tI_lt, en] at he
      repeat (refine R_s kC9 rfl rfl ?_)
      exact R_rz kC9 rfl (Or.inl rfl) ⟨ri_eq (b2i_f (decide_eq_false (by rw [ec]; omega))), rfl⟩
    · rw [tI_lt, en] at he
      repeat (refine R_s kC9 rfl rfl ?_)
      refine R_g kC9 rfl ?_
      exact R_rz kC9 rfl (Or.inr rfl) ⟨ri_eq (b2i_t (decide_eq_true (by rw [ec]; omega))), rfl⟩
theorem sp_FA_holds (d : Nat) (hF : FamC h o n S Lm) (hn : n ≤ 5) (v : Int32) : Cl (d + 2) 37 [.ref o, .int v] h (some (.int (b2i (inF n S v)))) h := by
  have kC9 := co_FA_holds
  refine Cl_of kC9 rfl rfl ?_
  unfold inF
  repeat (refine R_s kC9 rfl rfl ?_)
  refine R_cv kC9 rfl rfl rfl rfl hF.2 hF.1 (sp_FA_isSet d hF hn v) ?_
  refine ZB_eq kC9 rfl (fun hc => ?_) (fun hc => ?_)
  · repeat (refine R_s kC9 rfl rfl ?_)
    rw [hc]
    exact R_rz kC9 rfl (Or.inl rfl) ⟨ri_eq (b2i_f (rfl)), rfl⟩
  · rw [hc]
    obtain ⟨s, s1, s2, s3, rfl⟩ := setB_of hn hc
    repeat (refine R_s kC9 rfl rfl ?_)
    refine R_get kC9 rfl (hF.2) rfl ?_
    repeat (refine R_s kC9 rfl rfl ?_)
    refine (show R (d + 2) 37 10 _ [.int (ushr S (nI s) &&& nI 1)] h _ from ?_)
    rw [ushr_bt s3, nI_clamp (by omega)]
    refine ZB_eq kC9 rfl (fun hd => ?_) (fun hd => ?_)
    · repeat (refine R_s kC9 rfl rfl ?_)
      rw [hd]
      exact R_rz kC9 rfl (Or.inl rfl) ⟨ri_eq (b2i_f (rfl)), rfl⟩
    · repeat (refine R_s kC9 rfl rfl ?_)
      rw [hd]
      refine R_g kC9 rfl ?_
      exact R_rz kC9 rfl (Or.inr rfl) ⟨ri_eq (b2i_t (rfl)), rfl⟩
theorem sp_FA_isFace (d : Nat) (hF : FamC h o n S Lm) (hn : n ≤ 5) (v : Int32) : Cl (d + 3) 38 [.ref o, .int v] h (some (.int (b2i (inF n S v && !decide (v = nI (2 ^ n - 1)))))) h := by
  have kC9 := co_FA_isFace
  refine Cl_of kC9 rfl rfl ?_
  repeat (refine R_s kC9 rfl rfl ?_)
  refine R_cv kC9 rfl rfl rfl rfl hF.2 hF.1 (sp_FA_holds d hF hn v) ?_
  refine ZB_eq kC9 rfl (fun hc => ?_) (fun hc => ?_)
  · repeat (refine R_s kC9 rfl rfl ?_)
    rw [hc]
    exact R_rz kC9 rfl (Or.inl rfl) ⟨ri_eq (b2i_f (rfl)), rfl⟩
  · rw [hc]
    repeat (refine R_s kC9 rfl rfl ?_)
    refine R_cv kC9 rfl rfl rfl rfl hF.2 hF.1 (sp_FA_whole (d + 2) hF hn) ?_
    refine Rr_eq kC9 rfl (fun he => ?_) (fun he => ?_)
    · repeat (refine R_s kC9 rfl rfl ?_)
      exact R_rz kC9 rfl (Or.inl rfl) ⟨ri_eq (b2i_f (by simp [he])), rfl⟩
    · repeat (refine R_s kC9 rfl rfl ?_)
      refine R_g kC9 rfl ?_
      exact R_rz kC9 rfl (Or.inr rfl) ⟨ri_eq (b2i_t (by simp [he])), rfl⟩
theorem sp_FA_isLined (d : Nat) (hF : FamC h o n S Lm) {a b : Nat} (ha : a < 5) (hb : b < 5) : Cl d 39 [.ref o, .int (nI a), .int (nI b)] h (some (.int (b2i (bt Lm (5 * a + b))))) h := by
  have kC9 := co_FA_isLined
  refine Cl_of kC9 rfl rfl ?_
  repeat (refine R_s kC9 rfl rfl ?_)
  refine R_get kC9 rfl (hF.2) rfl ?_
  repeat (refine R_s kC9 rfl rfl ?_)
  refine (show R d 39 10 _ [.int ((Lm >>> ((nI 5 * nI a + nI b) &&& 31)) &&& nI 1)] h _ from ?_)
  rw [pk_mul, nI_add, shr_bt (by omega)]
  refine ZB_eq kC9 rfl (fun hc => ?_) (fun hc => ?_)
  · repeat (refine R_s kC9 rfl rfl ?_)
    exact R_rz kC9 rfl (Or.inl rfl) ⟨ri_eq (b2i_f (hc)), rfl⟩
  · repeat (refine R_s kC9 rfl rfl ?_)
    refine R_g kC9 rfl ?_
    exact R_rz kC9 rfl (Or.inr rfl) ⟨ri_eq (b2i_t (hc)), rfl⟩
def trnL (Lm : Int32) (a b : Nat) : Int32 := Lm ^^^ ((nI 1 <<< (nI (5 * a + b) &&& 31)) ||| (nI 1 <<< (nI (5 * b + a) &&& 31)))
theorem sp_FA_turnLine (d : Nat) (hF : FamC h o n S Lm) (a b : Nat) : Cl d 40 [.ref o, .int (nI a), .int (nI b)] h none (upH h o (objA 2 [.int (nI n), .int S, .int (trnL Lm a b)])) := by
  have kC9 := co_FA_turnLine
  refine Cl_of kC9 rfl rfl ?_
  repeat (refine R_s kC9 rfl rfl ?_)
  refine R_get kC9 rfl (hF.2) rfl ?_
  repeat (refine R_s kC9 rfl rfl ?_)
  refine R_put kC9 rfl hF.2 hF.1 (Nat.le_of_ble_eq_true rfl) rfl ?_
  refine R_rv kC9 rfl ⟨rfl, ?_⟩
  refine (show upH h o (objA 2 [.int (nI n), .int S, .int (Lm ^^^ ((nI 1 <<< ((nI 5 * nI a + nI b) &&& 31)) ||| (nI 1 <<< ((nI 5 * nI b + nI a) &&& 31))))]) = _ from ?_)
  rw [pk_mul, pk_mul, nI_add, nI_add]
  rfl
theorem sp_FA_lineCount (d : Nat) (hF : FamC h o n S Lm) : Cl (d + 1) 41 [.ref o] h (some (.int (nI (cnt (bt Lm) 32 / 2)))) h := by
  have kC9 := co_FA_lineCount
  refine Cl_of kC9 rfl rfl ?_
  have := cnt_le (bt Lm) 32
  repeat (refine R_s kC9 rfl rfl ?_)
  refine R_get kC9 rfl (hF.2) rfl ?_
  refine R_cs kC9 rfl rfl rfl rfl (sp_JI_bitCount d h Lm) ?_
  repeat (refine R_s kC9 rfl rfl ?_)
  refine R_div kC9 rfl (by decide) ?_
  exact R_ri kC9 rfl ⟨ri_eq (pk_div (by omega) (by omega) (by omega)), rfl⟩
theorem sp_FA_copy (d : Nat) {p n2 : Nat} {S2 L2 : Int32} (hF : FamC h o n S Lm) (hP : FamC h p n2 S2 L2) (hop : o ≠ p) : Cl d 31 [.ref o, .ref p] h none (upH h o (objA 2 [.int (nI n2), .int S2, .int L2])) := by
  have kC9 := co_FA_copy
  refine Cl_of kC9 rfl rfl ?_
  repeat (refine R_s kC9 rfl rfl ?_)
  refine R_get kC9 rfl (hP.2) rfl ?_
  refine R_put kC9 rfl hF.2 hF.1 (Nat.le_of_ble_eq_true rfl) rfl ?_
  refine (show R d 31 4 _ [] (upH h o (objA 2 [.int (nI n2), .int S, .int Lm])) _ from ?_)
  repeat (refine R_s kC9 rfl rfl ?_)
  refine R_get kC9 rfl ((upH_ne _ _ (Ne.symm hop)).trans hP.2) rfl ?_
  refine R_put kC9 rfl (upH_at _ _ _) hF.1 (Nat.le_of_ble_eq_true rfl) rfl ?_
  rw [upH_upH]
  refine (show R d 31 8 _ [] (upH h o (objA 2 [.int (nI n2), .int S2, .int Lm])) _ from ?_)
  repeat (refine R_s kC9 rfl rfl ?_)
  refine R_get kC9 rfl ((upH_ne _ _ (Ne.symm hop)).trans hP.2) rfl ?_
  refine R_put kC9 rfl (upH_at _ _ _) hF.1 (Nat.le_of_ble_eq_true rfl) rfl ?_
  rw [upH_upH]
  exact R_rv kC9 rfl ⟨rfl, rfl⟩
theorem sp_FA_lose (d : Nat) (hF : FamC h o n S Lm) {c : Nat} (hc : c < 32) : Cl d 49 [.ref o, .int (nI c)] h none (upH h o (objA 2 [.int (nI n), .int (delM S c), .int Lm])) := by
  have kC9 := co_FA_lose
  refine Cl_of kC9 rfl rfl ?_
  repeat (refine R_s kC9 rfl rfl ?_)
  refine R_get kC9 rfl (hF.2) rfl ?_
  repeat (refine R_s kC9 rfl rfl ?_)
  refine R_put kC9 rfl hF.2 hF.1 (Nat.le_of_ble_eq_true rfl) rfl ?_
  refine R_rv kC9 rfl ⟨rfl, ?_⟩
  refine (show upH h o (objA 2 [.int (nI n), .int (S &&& ((nI 1 <<< (nI c &&& 31)) ^^^ (-1))), .int Lm]) = _ from ?_)
  have : S &&& ((nI 1 <<< (nI c &&& 31)) ^^^ (-1)) = delM S c := b_ext (fun i hi => by rw [b_and, m1_xor_bt _ hi, one_bt hc hi, delM_bt S hi])
  rw [this]
theorem lc_orders (d : Nat) (hF : FamC h o n S Lm) (hn : n ≤ 5) : ∀ (m k : Nat), k + m = n → 1 ≤ k → R d 55 4 [some (.ref o), some (.int (nI (fcN k))), some (.int (nI (k + 1)))] [] h (fun r2 h2 => r2 = some (.int (nI (fcN n))) ∧ h2 = h) := by
  have kC9 := co_FA_orderCount
  intro m
  induction m with
  | zero =>
    intro k hk _
    have : k = n := by omega
    subst this
    repeat (refine R_s kC9 rfl rfl ?_)
    refine R_get kC9 rfl (hF.2) rfl ?_
    refine R_gt kC9 rfl (rfl) (rfl) (by omega) (by omega) (fun hc => ?_) (fun hc => ?_)
    · repeat (refine R_s kC9 rfl rfl ?_)
      exact R_ri kC9 rfl ⟨rfl, rfl⟩
    · omega
  | succ m ih =>
    intro k hk hk1
    repeat (refine R_s kC9 rfl rfl ?_)
    refine R_get kC9 rfl (hF.2) rfl ?_
    refine R_gt kC9 rfl (rfl) (rfl) (by omega) (by omega) (fun hc => ?_) (fun hc => ?_)
    · omega
    · repeat (refine R_s kC9 rfl rfl ?_)
      refine R_g kC9 rfl ?_
      refine (show R d 55 4 [some (.ref o), some (.int (nI (fcN k) * nI (k + 1))), some (.int (nI (k + 1) + nI 1))] [] h _ from ?_)
      rw [nI_add, pk_mul]
      exact ih (k + 1) (by omega) (by omega)
theorem sp_FA_orderCount (d : Nat) (hF : FamC h o n S Lm) (hn : n ≤ 5) (h1 : 1 ≤ n) : Cl d 55 [.ref o] h (some (.int (nI (fcN n)))) h := by
  have kC9 := co_FA_orderCount
  refine Cl_of kC9 rfl rfl ?_
  iterate 4 (refine R_s kC9 rfl rfl ?_)
  exact lc_orders d hF hn (n - 1) 1 (by omega) (Nat.le_refl 1)
end
