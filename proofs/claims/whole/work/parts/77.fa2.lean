/-! THE CLASS, 8: Family: parts, pairs, what comes and goes -/
section
variable {h : AH} {o n : Nat} {S Lm : Int32}
theorem sp_FA_isSingle (d : Nat) {s : Nat} (h1 : 1 ≤ s) (hs : s < 32) : Cl d 43 [.int (nI s)] h (some (.int (b2i (decide (pc s = 1))))) h := by
  have kC9 := co_FA_isSingle
  refine Cl_of kC9 rfl rfl ?_
  have key : ∀ s, 1 ≤ s → s < 32 → ((nI s &&& (nI s - nI 1) = 0) ↔ pc s = 1) := by
    have : ∀ s, s < 32 → 1 ≤ s → ((nI s &&& (nI s - nI 1) = 0) ↔ pc s = 1) := by decide +kernel
    exact fun s a b => this s b a
  repeat (refine R_s kC9 rfl rfl ?_)
  refine Zr_ne kC9 rfl (fun hc => ?_) (fun hc => ?_)
  · repeat (refine R_s kC9 rfl rfl ?_)
    exact R_rz kC9 rfl (Or.inl rfl) ⟨ri_eq (b2i_f (decide_eq_false (fun q => hc ((key s h1 hs).mpr q)))), rfl⟩
  · repeat (refine R_s kC9 rfl rfl ?_)
    refine R_g kC9 rfl ?_
    exact R_rz kC9 rfl (Or.inr rfl) ⟨ri_eq (b2i_t (decide_eq_true ((key s h1 hs).mp hc))), rfl⟩
theorem sp_FA_arePair (d : Nat) (hF : FamC h o n S Lm) {a b : Nat} (ha : a < 32) (hb : b < 32) : Cl d 52 [.ref o, .int (nI a), .int (nI b)] h (some (.int (b2i (if a &&& b = 0 then !bt S (a ||| b) else decide (a ||| b = b))))) h := by
  have kC9 := co_FA_arePair
  refine Cl_of kC9 rfl rfl ?_
  have hab : a ||| b < 32 := Nat.or_lt_two_pow (n := 5) ha hb
  have hab2 : a &&& b < 32 := Nat.lt_of_le_of_lt Nat.and_le_left ha
  repeat (refine R_s kC9 rfl rfl ?_)
  refine (show R d 52 7 [some (.ref o), some (.int (nI a)), some (.int (nI b)), some (.int (nI a ||| nI b))] [.int (nI a &&& nI b)] h _ from ?_)
  rw [nx_and, nx_or]
  refine Z_ne kC9 rfl (rfl) (by omega) (fun hc => ?_) (fun hc => ?_)
  · rw [if_neg hc]
    repeat (refine R_s kC9 rfl rfl ?_)
    refine R_ne kC9 rfl rfl rfl (by omega) (by omega) (fun hd => ?_) (fun hd => ?_)
    · repeat (refine R_s kC9 rfl rfl ?_)
      exact R_rz kC9 rfl (Or.inl rfl) ⟨ri_eq (b2i_f (decide_eq_false hd)), rfl⟩
    · repeat (refine R_s kC9 rfl rfl ?_)
      refine R_g kC9 rfl ?_
      exact R_rz kC9 rfl (Or.inr rfl) ⟨ri_eq (b2i_t (decide_eq_true hd)), rfl⟩
  · rw [if_pos hc]
    repeat (refine R_s kC9 rfl rfl ?_)
    refine R_get kC9 rfl (hF.2) rfl ?_
    repeat (refine R_s kC9 rfl rfl ?_)
    refine (show R d 52 14 _ [.int (ushr S (nI (a ||| b)) &&& nI 1)] h _ from ?_)
    rw [ushr_bt hab]
    refine ZB_ne kC9 rfl (fun hd => ?_) (fun hd => ?_)
    · repeat (refine R_s kC9 rfl rfl ?_)
      refine R_g kC9 rfl ?_
      exact R_rz kC9 rfl (Or.inl rfl) ⟨ri_eq (b2i_f (by rw [hd]; rfl)), rfl⟩
    · repeat (refine R_s kC9 rfl rfl ?_)
      refine R_g kC9 rfl ?_
      exact R_rz kC9 rfl (Or.inr rfl) ⟨ri_eq (b2i_t (by rw [hd]; rfl)), rfl⟩
theorem sp_FA_countWith (d : Nat) (hF : FamC h o n S Lm) (h0 : h.2 0 = ints 5 havF) (hb0 : bt S 0 = false) {s p : Nat} (hs : s < 32) (hp : p < 5) : Cl (d + 1) 51 [.ref o, .int (nI s), .int (nI p)] h (some (.int (nI (stdN S s p)))) h := by
  have kC9 := co_FA_countWith
  refine Cl_of kC9 rfl rfl ?_
  repeat (refine R_s kC9 rfl rfl ?_)
  refine Z_lt kC9 rfl (rfl) (by omega) (fun hc => ?_) (fun hc => ?_)
  · omega
  · repeat (refine R_s kC9 rfl rfl ?_)
    refine R_st kC9 rfl ?_
    refine R_alen kC9 rfl h0 (by omega) ?_
    refine R_lt kC9 rfl rfl rfl (by omega) (by omega) (fun _ => ?_) (fun q => by omega)
    repeat (refine R_s kC9 rfl rfl ?_)
    refine R_get kC9 rfl (hF.2) rfl ?_
    repeat (refine R_s kC9 rfl rfl ?_)
    refine R_cs kC9 rfl rfl rfl rfl (sp_NB_within d h0 hs) ?_
    repeat (refine R_s kC9 rfl rfl ?_)
    refine R_st kC9 rfl ?_
    repeat (refine R_s kC9 rfl rfl ?_)
    refine R_ild kC9 rfl h0 (k := p) rfl hp (by omega) ?_
    repeat (refine R_s kC9 rfl rfl ?_)
    refine R_cs kC9 rfl rfl rfl rfl (sp_JI_bitCount d h _) ?_
    refine R_ri kC9 rfl ⟨ri_eq ?_, rfl⟩
    congr 1
    unfold stdN
    apply cnt_congr
    intro i hi
    unfold stB wiM
    rw [b_and, b_and, maskOf_bt _ hi, hav_bt p hp i hi]
    by_cases e : i = 0
    · subst e; rw [hb0]; simp
    · rw [decide_eq_true (show 1 ≤ i by omega), Bool.true_and]
noncomputable def ptK (S : Int32) (s k t : Nat) : Bool := decide (t < k) && pb (partP S s t)
theorem lc_partsOf (d : Nat) (h0 : h.2 0 = ints 5 havF) {s : Nat} (hs : s < 32) (hb0 : bt S 0 = false) : ∀ (m k : Nat), k + m = s + 1 → R (d + 1) 50 10 [some (.ref o), some (.int (nI s)), some (.int (S &&& wiM s)), some (.int (maskOf (ptK S s k))), some (.int (nI k))] [] h (fun r2 h2 => r2 = some (.int (maskOf (fun t => pb (partP S s t)))) ∧ h2 = h) := by
  have kC9 := co_FA_partsOf
  intro m
  induction m with
  | zero =>
    intro k hk
    repeat (refine R_s kC9 rfl rfl ?_)
    refine R_gt kC9 rfl (rfl) (rfl) (by omega) (by omega) (fun hc => ?_) (fun hc => ?_)
    · repeat (refine R_s kC9 rfl rfl ?_)
      refine R_ri kC9 rfl ⟨ri_eq ?_, rfl⟩
      apply b_ext
      intro i hi
      rw [maskOf_bt _ hi, maskOf_bt _ hi]
      unfold ptK
      by_cases e : i < k
      · rw [decide_eq_true e, Bool.true_and]
      · rw [decide_eq_false e, Bool.false_and]
        symm
        rw [pb_false]
        intro q
        have := q.2.1
        have l := Nat.and_le_right (n := i) (m := s)
        omega
    · omega
  | succ m ih =>
    intro k hk
    have hk32 : k < 32 := by omega
    have goon : ∀ x : Int32, x = maskOf (ptK S s (k + 1)) → R (d + 1) 50 33 [some (.ref o), some (.int (nI s)), some (.int (S &&& wiM s)), some (.int x), some (.int (nI k))] [] h (fun r2 h2 => r2 = some (.int (maskOf (fun t => pb (partP S s t)))) ∧ h2 = h) := by
      rintro x rfl
      repeat (refine R_s kC9 rfl rfl ?_)
      refine R_g kC9 rfl ?_
      refine (show R (d + 1) 50 10 [some (.ref o), some (.int (nI s)), some (.int (S &&& wiM s)), some (.int (maskOf (ptK S s (k + 1)))), some (.int (nI k + nI 1))] [] h _ from ?_)
      rw [nI_add]
      exact ih (k + 1) (by omega)
    have stay : pb (partP S s k) = false → maskOf (ptK S s k) = maskOf (ptK S s (k + 1)) := by
      intro q
      apply b_ext
      intro i hi
      rw [maskOf_bt _ hi, maskOf_bt _ hi]
      unfold ptK
      by_cases e : i = k
      · subst e; rw [q]; simp
      · rw [show decide (i < k) = decide (i < k + 1) by congr 1; apply propext; omega]
    repeat (refine R_s kC9 rfl rfl ?_)
    refine R_gt kC9 rfl (rfl) (rfl) (by omega) (by omega) (fun hc => ?_) (fun hc => ?_)
    · omega
    · repeat (refine R_s kC9 rfl rfl ?_)
      refine (show R (d + 1) 50 18 [some (.ref o), some (.int (nI s)), some (.int (S &&& wiM s)), some (.int (maskOf (ptK S s k))), some (.int (nI k))] [.int (ushr (S &&& wiM s) (nI k) &&& nI 1)] h _ from ?_)
      rw [ushr_bt hk32]
      refine ZB_eq kC9 rfl (fun hd => ?_) (fun hd => ?_)
      · refine goon _ (stay ?_)
        rw [pb_false]
        intro q
        rw [b_and] at hd
        unfold wiM at hd
        rw [maskOf_bt _ hk32, q.1, decide_eq_true q.2.1] at hd
        have : 1 ≤ k := by
          cases k with
          | zero => have := q.1; rw [hb0] at this; cases this
          | succ k => omega
        rw [decide_eq_true this] at hd
        cases hd
      · have hin : bt S k = true ∧ 1 ≤ k ∧ k &&& s = k := by
          rw [b_and] at hd
          unfold wiM at hd
          rw [maskOf_bt _ hk32] at hd
          simp only [Bool.and_eq_true, decide_eq_true_eq] at hd
          exact hd
        repeat (refine R_s kC9 rfl rfl ?_)
        refine R_cs kC9 rfl rfl rfl rfl (sp_NB_around d h0 hk32) ?_
        repeat (refine R_s kC9 rfl rfl ?_)
        refine Rr_ne kC9 rfl (fun he => ?_) (fun he => ?_)
        · refine goon _ (stay ?_)
          rw [pb_false]
          intro q
          apply he
          refine (show (S &&& wiM s) &&& arM k = nI 1 <<< (nI k &&& 31) from ?_)
          apply b_ext
          intro i hi
          unfold wiM arM
          rw [b_and, b_and, maskOf_bt _ hi, maskOf_bt _ hi, one_bt hk32 hi]
          by_cases e : i = k
          · subst e
            rw [hin.1, decide_eq_true hin.2.1, decide_eq_true hin.2.2, Nat.and_self]
            simp
          · rw [decide_eq_false e]
            cases hbi : bt S i with
            | false => rfl
            | true =>
              by_cases c1 : 1 ≤ i
              · by_cases c2 : i &&& s = i
                · have := q.2.2 i c1 hi e hbi c2
                  simp [this]
                · simp [c2]
              · simp [c1]
        · iterate 6 (refine R_s kC9 rfl rfl ?_)
          refine goon _ ?_
          refine (show maskOf (ptK S s k) ||| (nI 1 <<< (nI k &&& 31)) = _ from ?_)
          have hp : pb (partP S s k) = true := by
            rw [pb_true]
            refine ⟨hin.1, hin.2.2, fun t t1 t2 t3 t4 t5 t6 => ?_⟩
            have e2 : bt ((S &&& wiM s) &&& arM k) t = bt (nI 1 <<< (nI k &&& 31)) t := by
              rw [show (S &&& wiM s) &&& arM k = nI 1 <<< (nI k &&& 31) from he]
            unfold wiM arM at e2
            rw [b_and, b_and, maskOf_bt _ t2, maskOf_bt _ t2, one_bt hk32 t2, t4, decide_eq_true t1, decide_eq_true t5, decide_eq_true t6, decide_eq_false t3] at e2
            cases e2
          apply b_ext
          intro i hi
          rw [b_or, maskOf_bt _ hi, maskOf_bt _ hi, one_bt hk32 hi]
          unfold ptK
          by_cases e : i = k
          · subst e; rw [hp]; simp
          · rw [show decide (i < k) = decide (i < k + 1) by congr 1; apply propext; omega, decide_eq_false e, Bool.or_false]
theorem sp_FA_partsOf (d : Nat) (hF : FamC h o n S Lm) (h0 : h.2 0 = ints 5 havF) (hb0 : bt S 0 = false) {s : Nat} (hs : s < 32) : Cl (d + 1) 50 [.ref o, .int (nI s)] h (some (.int (maskOf (fun t => pb (partP S s t))))) h := by
  have kC9 := co_FA_partsOf
  refine Cl_of kC9 rfl rfl ?_
  repeat (refine R_s kC9 rfl rfl ?_)
  refine R_get kC9 rfl (hF.2) rfl ?_
  repeat (refine R_s kC9 rfl rfl ?_)
  refine R_cs kC9 rfl rfl rfl rfl (sp_NB_within d h0 hs) ?_
  iterate 6 (refine R_s kC9 rfl rfl ?_)
  have := lc_partsOf (o := o) d h0 hs hb0 s 1 (by omega)
  have e : maskOf (ptK S s 1) = 0 := by
    apply b_ext
    intro i hi
    rw [maskOf_bt _ hi, b_0]
    unfold ptK
    by_cases e : i = 0
    · subst e
      have : pb (partP S s 0) = false := pb_false.mpr (fun q => by have := q.1; rw [hb0] at this; cases this)
      rw [this]; simp
    · rw [decide_eq_false (by omega)]; rfl
  rw [e] at this
  exact this
end
