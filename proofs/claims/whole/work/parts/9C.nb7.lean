/-! THE CLASS, 32: NestedBodies: judge, odds, mean, fits, after -/
section
variable {h h' : AH} {U K V : US} {im : Bool} {tx : List Nat} {T : TPS}
theorem lc_judge (d : Nat) (hI : NBI h U K im tx T) (hF : Fam U.1 U.2.1) {t : Nat} (ht : t < 6) (v i : Int32) : ∀ (m s k : Nat), s + m = 2 ^ U.1 → 1 ≤ s → k < s → R (d + 3) 124 22 [some (.ref 3), some (.int v), some (.int i), some (.ref (64 + 2 * t)), some (.int (nI k)), some (.int (nI s))] [] h (fun r2 h2 => r2 = some (.int (jdF (T t).2 i ((List.range' s m).filter (bt U.2.1)) k)) ∧ h2 = h) := by
  have kC9 := co_NB_judge
  have hn := hF.2.1
  have p5 := pow5 hn
  have p1 : 1 ≤ 2 ^ U.1 := Nat.one_le_two_pow
  have hT := hI.tp ht
  intro m
  induction m with
  | zero =>
    intro s k hs hs1 hk
    repeat (refine R_s kC9 rfl rfl ?_)
    refine R_get kC9 rfl (hI.ob) rfl ?_
    refine R_get kC9 rfl (hI.st.2.1) rfl ?_
    refine R_cv kC9 rfl rfl rfl rfl hI.st.2.2.1.2 (by omega) (sp_FA_whole (d + 2) hI.st.2.2.1 hn) ?_
    refine R_gt kC9 rfl rfl rfl (by omega) (by omega) (fun _ => ?_) (fun z => by omega)
    repeat (refine R_s kC9 rfl rfl ?_)
    exact R_ri kC9 rfl ⟨rfl, rfl⟩
  | succ m ih =>
    intro s k hs hs1 hk
    repeat (refine R_s kC9 rfl rfl ?_)
    refine R_get kC9 rfl (hI.ob) rfl ?_
    refine R_get kC9 rfl (hI.st.2.1) rfl ?_
    refine R_cv kC9 rfl rfl rfl rfl hI.st.2.2.1.2 (by omega) (sp_FA_whole (d + 2) hI.st.2.2.1 hn) ?_
    refine R_gt kC9 rfl rfl rfl (by omega) (by omega) (fun z => by omega) (fun _ => ?_)
    repeat (refine R_s kC9 rfl rfl ?_)
    refine R_get kC9 rfl (hI.ob) rfl ?_
    refine R_get kC9 rfl (hI.st.2.1) rfl ?_
    repeat (refine R_s kC9 rfl rfl ?_)
    refine R_cv kC9 rfl rfl rfl rfl hI.st.2.2.1.2 (by omega) (sp_FA_holds d hI.st.2.2.1 hn (nI s)) ?_
    rw [inF_nI (by omega), decide_eq_true (show 1 ≤ s ∧ s < 2 ^ U.1 by omega), Bool.true_and, List.range'_succ]
    refine ZB_ne kC9 rfl (fun hd => ?_) (fun hd => ?_)
    · rw [List.filter_cons_of_pos hd, jdF_cons]
      repeat (refine R_s kC9 rfl rfl ?_)
      refine (show R (d + 3) 124 40 [some (.ref 3), some (.int v), some (.int i), some (.ref (64 + 2 * t)), some (.int (nI k)), some (.int (nI s))] [.int (nI k + nI 1), .int i, .ref (64 + 2 * t)] h _ from ?_)
      rw [nI_add]
      refine R_cv kC9 rfl rfl rfl rfl hT.2.2.1 (by omega) (sp_TA_hasRun (d + 2) hT i (nI (k + 1))) ?_
      have e1 : (nI (k + 1)).toInt = ((k + 1 : Nat) : Int) := nI_toInt (by omega)
      refine ZB_ne kC9 rfl (fun he => ?_) (fun he => ?_)
      · have he1 := of_decide_eq_true he
        rw [e1] at he1
        rw [if_neg (show ¬ (i.toInt < 0 ∨ ((T t).2.length : Int) - i.toInt ≤ k) by omega)]
        obtain ⟨q, hq, rfl⟩ := nI_of (show ¬ i < 0 by rw [tI_lt, tI_0]; omega)
        rw [nI_toInt hq] at he1
        rw [nI_clamp hq]
        have hl := hT.2.1
        have hit : itI (T t).2.length (nI (q + k)) = true := by
          unfold itI
          rw [nI_toInt (by omega)]
          exact decide_eq_true (by omega)
        have hg := sp_TA_get (d + 1) hT (nI (q + k))
        rw [if_pos hit, nI_clamp (by omega)] at hg
        repeat (refine R_s kC9 rfl rfl ?_)
        refine (show R (d + 3) 124 50 [some (.ref 3), some (.int v), some (.int (nI q)), some (.ref (64 + 2 * t)), some (.int (nI k)), some (.int (nI s))] [.int (nI q + nI k), .ref (64 + 2 * t)] h _ from ?_)
        rw [nI_add]
        refine R_cv kC9 rfl rfl rfl rfl hT.2.2.1 (by omega) hg ?_
        repeat (refine R_s kC9 rfl rfl ?_)
        refine Zr_eq kC9 rfl (fun hf => ?_) (fun hf => ?_)
        · rw [if_pos ((lg_eq0 _ _).mp hf)]
          repeat (refine R_s kC9 rfl rfl ?_)
          refine R_g kC9 rfl ?_
          refine (show R (d + 3) 124 22 [some (.ref 3), some (.int v), some (.int (nI q)), some (.ref (64 + 2 * t)), some (.int (nI k + nI 1)), some (.int (nI s + nI 1))] [] h _ from ?_)
          rw [nI_add, nI_add]
          exact ih (s + 1) (k + 1) (by omega) (by omega) (by omega)
        · rw [if_neg (fun z => hf ((lg_eq0 _ _).mpr z))]
          repeat (refine R_s kC9 rfl rfl ?_)
          exact R_ri kC9 rfl ⟨rfl, rfl⟩
      · have he1 := of_decide_eq_false he
        rw [e1] at he1
        rw [if_pos (show i.toInt < 0 ∨ ((T t).2.length : Int) - i.toInt ≤ k by omega)]
        repeat (refine R_s kC9 rfl rfl ?_)
        exact R_ri kC9 rfl ⟨ri_eq (nI_add 100 k), rfl⟩
    · rw [List.filter_cons_of_neg (by rw [hd]; decide)]
      refine R_g kC9 rfl ?_
      repeat (refine R_s kC9 rfl rfl ?_)
      refine R_g kC9 rfl ?_
      refine (show R (d + 3) 124 22 [some (.ref 3), some (.int v), some (.int i), some (.ref (64 + 2 * t)), some (.int (nI k)), some (.int (nI s + nI 1))] [] h _ from ?_)
      rw [nI_add]
      exact ih (s + 1) k (by omega) (by omega) (by omega)
theorem els_fam {n : Nat} {S : Int32} (hF : Fam n S) : els S = (List.range' 1 (2 ^ n - 1)).filter (bt S) := by
  have p5 := pow5 hF.2.1
  have p1 : 1 ≤ 2 ^ n := Nat.one_le_two_pow
  rw [els_r1 hF.b0, show (31 : Nat) = (2 ^ n - 1) + (32 - 2 ^ n) by omega, ← List.range'_append_1, List.filter_append]
  have e2 : (List.range' (1 + (2 ^ n - 1)) (32 - 2 ^ n)).filter (bt S) = [] := by
    apply List.filter_eq_nil_iff.mpr
    intro t ht hb
    rw [List.mem_range'_1] at ht
    have := (hF.2.2.1 t (by omega) hb).2
    omega
  rw [e2, List.append_nil]
theorem nb_judge (d : Nat) (hI : NBI h U K im tx T) (hF : Fam U.1 U.2.1) (v i : Int32) : Cl (d + 3) 124 [.ref 3, .int v, .int i] h (some (.int (judgeR T U.2.1 v i))) h := by
  have kC9 := co_NB_judge
  refine Cl_of kC9 rfl rfl ?_
  unfold judgeR
  repeat (refine R_s kC9 rfl rfl ?_)
  refine R_cv kC9 rfl rfl rfl rfl hI.ob (by omega) (nb_tapeAt (d + 2) hI v) ?_
  cases ht : tpI v with
  | false =>
    rw [if_neg (by decide), tpV_f ht]
    repeat (refine R_s kC9 rfl rfl ?_)
    refine R_b (c := false) kC9 rfl rfl rfl (fun z => by cases z) (fun _ => ?_)
    repeat (refine R_s kC9 rfl rfl ?_)
    exact R_ri kC9 rfl ⟨rfl, rfl⟩
  | true =>
    rw [if_pos rfl]
    obtain ⟨t, t6, rfl⟩ := tpI_of ht
    rw [tpV_t t6, nI_clamp (by omega)]
    have hT := hI.tp t6
    have p1 : 1 ≤ 2 ^ U.1 := Nat.one_le_two_pow
    have body : R (d + 3) 124 18 [some (.ref 3), some (.int (nI t)), some (.int i), some (.ref (64 + 2 * t)), none, none] [] h (fun r2 h2 => r2 = some (.int (jdF (T t).2 i (els U.2.1) 0)) ∧ h2 = h) := by
      iterate 4 (refine R_s kC9 rfl rfl ?_)
      have := lc_judge d hI hF t6 (nI t) i (2 ^ U.1 - 1) 1 0 (by omega) (by omega) (by omega)
      rw [← els_fam hF] at this
      exact this
    repeat (refine R_s kC9 rfl rfl ?_)
    refine R_b (c := true) kC9 rfl rfl rfl (fun _ => ?_) (fun z => by cases z)
    repeat (refine R_s kC9 rfl rfl ?_)
    refine R_get kC9 rfl (hT.2.2.1) rfl ?_
    repeat (refine R_s kC9 rfl rfl ?_)
    refine Rr_eq kC9 rfl (fun hd => ?_) (fun hd => ?_)
    · rw [if_neg (fun z => z.1 hd)]
      exact body
    · repeat (refine R_s kC9 rfl rfl ?_)
      refine R_get kC9 rfl (hT.2.2.1) rfl ?_
      repeat (refine R_s kC9 rfl rfl ?_)
      refine Rr_eq kC9 rfl (fun he => ?_) (fun he => ?_)
      · rw [if_neg (fun z => z.2 he)]
        exact body
      · rw [if_pos ⟨hd, he⟩]
        repeat (refine R_s kC9 rfl rfl ?_)
        exact R_ri kC9 rfl ⟨rfl, rfl⟩
theorem lc_gcd (d : Nat) (u v : Int32) : ∀ (m a b r : Nat) (w : Option Value), b < 2 ^ m → a < 2 ^ 31 → b < 2 ^ 31 → r + 2 * m ≤ 63 → (w = none ∨ ∃ x : Int32, w = some (.int x)) → R d 148 6 [some (.int u), some (.int v), some (.int (nI a)), some (.int (nI b)), some (.int (nI r)), w] [] h (fun r2 h2 => r2 = some (.int (nI (Nat.gcd a b))) ∧ h2 = h) := by
  have kC9 := co_NB_commonDivisor
  have zero : ∀ (a r : Nat) (w : Option Value), r ≤ 63 → R d 148 6 [some (.int u), some (.int v), some (.int (nI a)), some (.int (nI 0)), some (.int (nI r)), w] [] h (fun r2 h2 => r2 = some (.int (nI (Nat.gcd a 0))) ∧ h2 = h) := by
    intro a r w hr
    rw [Nat.gcd_zero_right]
    repeat (refine R_s kC9 rfl rfl ?_)
    refine R_ge kC9 rfl rfl rfl (by omega) (by omega) (fun z => by omega) (fun _ => ?_)
    repeat (refine R_s kC9 rfl rfl ?_)
    refine Z_le kC9 rfl rfl (by omega) (fun _ => ?_) (fun z => by omega)
    repeat (refine R_s kC9 rfl rfl ?_)
    exact R_ri kC9 rfl ⟨rfl, rfl⟩
  have one : ∀ (a b r : Nat) (w : Option Value) (Q : Option Value → AH → Prop), 0 < b → a < 2 ^ 31 → b < 2 ^ 31 → r ≤ 63 → (w = none ∨ ∃ x : Int32, w = some (.int x)) → R d 148 6 [some (.int u), some (.int v), some (.int (nI b)), some (.int (nI (a % b))), some (.int (nI (r + 1))), some (.int (nI (a % b)))] [] h Q → R d 148 6 [some (.int u), some (.int v), some (.int (nI a)), some (.int (nI b)), some (.int (nI r)), w] [] h Q := by
    intro a b r w Q hb ha hb31 hr hw k
    have go : R d 148 15 [some (.int u), some (.int v), some (.int (nI a)), some (.int (nI b)), some (.int (nI r)), some (.int (nI (a % b)))] [] h Q := by
      repeat (refine R_s kC9 rfl rfl ?_)
      refine R_g kC9 rfl ?_
      refine (show R d 148 6 [some (.int u), some (.int v), some (.int (nI b)), some (.int (nI (a % b))), some (.int (nI r + nI 1)), some (.int (nI (a % b)))] [] h Q from ?_)
      rw [nI_add]
      exact k
    repeat (refine R_s kC9 rfl rfl ?_)
    refine R_ge kC9 rfl rfl rfl (by omega) (by omega) (fun z => by omega) (fun _ => ?_)
    repeat (refine R_s kC9 rfl rfl ?_)
    refine Z_le kC9 rfl rfl (by omega) (fun z => by omega) (fun _ => ?_)
    repeat (refine R_s kC9 rfl rfl ?_)
    refine R_rem kC9 rfl (nI_ne0 hb hb31) ?_
    rw [pk_rem ha hb hb31]
    rcases hw with rfl | ⟨x, rfl⟩
    · iterate 1 (refine R_s kC9 rfl rfl ?_)
      exact go
    · iterate 1 (refine R_s kC9 rfl rfl ?_)
      exact go
  intro m
  induction m with
  | zero =>
    intro a b r w hb ha hb31 hr hw
    have : b = 0 := by simp at hb; omega
    subst this
    exact zero a r w (by omega)
  | succ m ih =>
    intro a b r w hb ha hb31 hr hw
    rcases Nat.eq_zero_or_pos b with e | e
    · subst e; exact zero a r w (by omega)
    · have l1 := Nat.mod_lt a e
      rw [← gcd_st a b]
      refine one a b r w _ e ha hb31 (by omega) hw ?_
      rcases Nat.eq_zero_or_pos (a % b) with e2 | e2
      · rw [e2]; exact zero b (r + 1) _ (by omega)
      · have l2 := Nat.mod_lt b e2
        rw [← gcd_st b (a % b)]
        refine one b (a % b) (r + 1) _ _ e2 hb31 (by omega) (by omega) (Or.inr ⟨_, rfl⟩) ?_
        refine ih (a % b) (b % (a % b)) (r + 1 + 1) _ ?_ (by omega) (by omega) (by omega) (Or.inr ⟨_, rfl⟩)
        have l3 := Nat.div_add_mod b (a % b)
        have l4 : 1 ≤ b / (a % b) := (Nat.le_div_iff_mul_le e2).mpr (by omega)
        have l5 : a % b ≤ (a % b) * (b / (a % b)) := Nat.le_mul_of_pos_right _ l4
        rw [Nat.pow_succ] at hb
        omega
theorem nb_fraction (d : Nat) {a b : Nat} (hb1 : 1 ≤ b) (ha : a < 2 ^ 31) (hb : b < 2 ^ 31) (w : Int32) : Cl (d + 1) 147 [.int (nI a), .int (nI b), .int w] h (some (.long (nI ((if w = 0 then a else b) / Nat.gcd a b)).toInt64)) h := by
  have kC9 := co_NB_fraction
  refine Cl_of kC9 rfl rfl ?_
  have g1 : 1 ≤ Nat.gcd a b := Nat.gcd_pos_of_pos_right _ hb1
  have g2 : Nat.gcd a b ≤ b := Nat.gcd_le_right _ hb1
  have hg : Cl d 148 [.int (nI a), .int (nI b)] h (some (.int (nI (Nat.gcd a b)))) h := by
    have kC9 := co_NB_commonDivisor
    refine Cl_of kC9 rfl rfl ?_
    iterate 6 (refine R_s kC9 rfl rfl ?_)
    exact lc_gcd d (nI a) (nI b) 31 a b 0 none hb ha hb (by omega) (Or.inl rfl)
  repeat (refine R_s kC9 rfl rfl ?_)
  refine R_cs kC9 rfl rfl rfl rfl (hg) ?_
  repeat (refine R_s kC9 rfl rfl ?_)
  refine R_ge kC9 rfl rfl rfl (by omega) (by omega) (fun _ => ?_) (fun z => by omega)
  repeat (refine R_s kC9 rfl rfl ?_)
  refine Zr_ne kC9 rfl (fun hd => ?_) (fun hd => ?_)
  · rw [if_neg hd]
    repeat (refine R_s kC9 rfl rfl ?_)
    refine R_div kC9 rfl (nI_ne0 (by omega) (by omega)) ?_
    rw [pk_div hb (by omega) (by omega)]
    repeat (refine R_s kC9 rfl rfl ?_)
    exact R_rl kC9 rfl ⟨rfl, rfl⟩
  · rw [if_pos hd]
    repeat (refine R_s kC9 rfl rfl ?_)
    refine R_div kC9 rfl (nI_ne0 (by omega) (by omega)) ?_
    rw [pk_div ha (by omega) (by omega)]
    repeat (refine R_s kC9 rfl rfl ?_)
    refine R_g kC9 rfl ?_
    exact R_rl kC9 rfl ⟨rfl, rfl⟩
theorem sp_NB_isFractionPart (d : Nat) (v : Int32) : Cl d 133 [.int v] h (some (.int (b2i (decide (0 ≤ v.toInt ∧ v.toInt ≤ 1))))) h := by
  have kC9 := co_NB_isFractionPart
  refine Cl_of kC9 rfl rfl ?_
  have i0 : v.toInt = 0 → v = 0 := fun z => Int32.toInt_inj.mp (by rw [z]; rfl)
  have i1 : v.toInt = 1 → v = nI 1 := fun z => Int32.toInt_inj.mp (by rw [z]; rfl)
  repeat (refine R_s kC9 rfl rfl ?_)
  refine Zr_eq kC9 rfl (fun hd => ?_) (fun hd => ?_)
  · repeat (refine R_s kC9 rfl rfl ?_)
    refine R_g kC9 rfl ?_
    exact R_rz kC9 rfl (Or.inr rfl) ⟨ri_eq (b2i_t (decide_eq_true (by rw [hd, tI_0]; omega))), rfl⟩
  · repeat (refine R_s kC9 rfl rfl ?_)
    refine Rr_ne kC9 rfl (fun he => ?_) (fun he => ?_)
    · repeat (refine R_s kC9 rfl rfl ?_)
      refine R_rz kC9 rfl (Or.inl rfl) ⟨ri_eq (b2i_f (decide_eq_false (fun z => ?_))), rfl⟩
      have : v.toInt = 0 ∨ v.toInt = 1 := by omega
      rcases this with z | z
      · exact hd (i0 z)
      · exact he (i1 z)
    · repeat (refine R_s kC9 rfl rfl ?_)
      refine R_g kC9 rfl ?_
      exact R_rz kC9 rfl (Or.inr rfl) ⟨ri_eq (b2i_t (decide_eq_true (by rw [he, tI_1]; omega))), rfl⟩
theorem fcN_b : ∀ n, n ≤ 5 → 1 ≤ fcN n ∧ fcN n ≤ 120 := by decide
theorem nb_odds (d : Nat) (hI : NBI h U K im tx T) (hG : FG U.1 U.2.1) (v w : Int32) : ∃ h', NQ h U K im tx T h' ∧ Cl (d + 10) 118 [.ref 3, .int v, .int w] h (some (.long (oddsR U.1 U.2.1 v w))) h' := by
  have kC9 := co_NB_odds
  have hn := hG.1.2.1
  have hn2 := hG.1.1
  refine Cl_eH kC9 rfl rfl ?_
  unfold oddsR
  obtain ⟨b, hb⟩ := hI.bp hG
  obtain ⟨h2, q2, c2⟩ := sp_BO_isCorner (d + 1) hb v
  have Q2 := hI.bq q2
  have I2 := Q2.2
  repeat (refine R_s kC9 rfl rfl ?_)
  refine R_get kC9 rfl (hI.ob) rfl ?_
  repeat (refine R_s kC9 rfl rfl ?_)
  refine R_cv kC9 rfl rfl rfl rfl hb.1.ob (by omega) c2 ?_
  refine ZB_eq kC9 rfl (fun hd => ?_) (fun hd => ?_)
  · rw [hd, Bool.false_and, if_neg (by decide)]
    repeat (refine R_s kC9 rfl rfl ?_)
    exact R_rl kC9 rfl ⟨rfl, Q2⟩
  · rw [hd, Bool.true_and]
    repeat (refine R_s kC9 rfl rfl ?_)
    refine R_cs kC9 rfl rfl rfl rfl (sp_NB_isFractionPart (d + 9) w) ?_
    refine ZB_ne kC9 rfl (fun he => ?_) (fun he => ?_)
    · rw [if_pos he]
      obtain ⟨c, c1, c2', rfl⟩ := itI_of hd
      rw [nI_clamp c2']
      obtain ⟨b2, hb2⟩ := I2.bp hG
      obtain ⟨h3, q3, c3⟩ := sp_BO_ordersTo d hb2 c1
      have hor := hG.2.2.2.2.2.2.1 c c1
      rw [hor] at c3
      have Q3 := Q2.tr (I2.bq q3)
      have I3 := Q3.2
      obtain ⟨f1, f2⟩ := fcN_b _ hn
      have ho : orN U.1 U.2.1 c ≤ fcN U.1 := by rw [← hor]; exact Nat.div_le_self _ _
      repeat (refine R_s kC9 rfl rfl ?_)
      refine R_get kC9 rfl I2.ob rfl ?_
      repeat (refine R_s kC9 rfl rfl ?_)
      refine R_cv kC9 rfl rfl rfl rfl hb2.1.ob (by omega) c3 ?_
      repeat (refine R_s kC9 rfl rfl ?_)
      refine R_get kC9 rfl I3.ob rfl ?_
      refine R_get kC9 rfl I3.st.2.1 rfl ?_
      refine R_cv kC9 rfl rfl rfl rfl I3.st.2.2.1.2 (by omega) (sp_FA_orderCount (d + 9) I3.st.2.2.1 hn (by omega)) ?_
      repeat (refine R_s kC9 rfl rfl ?_)
      refine R_cs kC9 rfl rfl rfl rfl (nb_fraction (d + 8) f1 (show orN U.1 U.2.1 c < 2 ^ 31 by omega) (by omega) w) ?_
      rw [Nat.gcd_comm]
      exact R_rl kC9 rfl ⟨rfl, Q3⟩
    · rw [he, if_neg (by decide)]
      repeat (refine R_s kC9 rfl rfl ?_)
      exact R_rl kC9 rfl ⟨rfl, Q2⟩
theorem nb_mean (d : Nat) (hI : NBI h U K im tx T) (hG : FG U.1 U.2.1) (v w : Int32) : ∃ h', NQ h U K im tx T h' ∧ Cl (d + 10) 119 [.ref 3, .int v, .int w] h (some (.long (meanR U.1 U.2.1 v w))) h' := by
  have kC9 := co_NB_mean
  have hn := hG.1.2.1
  have hn2 := hG.1.1
  refine Cl_eH kC9 rfl rfl ?_
  unfold meanR
  repeat (refine R_s kC9 rfl rfl ?_)
  refine R_get kC9 rfl (hI.ob) rfl ?_
  refine R_get kC9 rfl (hI.st.2.1) rfl ?_
  repeat (refine R_s kC9 rfl rfl ?_)
  refine R_cv kC9 rfl rfl rfl rfl hI.st.2.2.1.2 (by omega) (sp_FA_isPoint (d + 9) hI.st.2.2.1 hn v) ?_
  refine ZB_eq kC9 rfl (fun hd => ?_) (fun hd => ?_)
  · rw [hd, Bool.false_and, if_neg (by decide)]
    repeat (refine R_s kC9 rfl rfl ?_)
    exact R_rl kC9 rfl ⟨rfl, NQ.rfl' hI⟩
  · rw [hd, Bool.true_and]
    repeat (refine R_s kC9 rfl rfl ?_)
    refine R_cs kC9 rfl rfl rfl rfl (sp_NB_isFractionPart (d + 9) w) ?_
    refine ZB_ne kC9 rfl (fun he => ?_) (fun he => ?_)
    · rw [if_pos he]
      obtain ⟨p, p1, p2, rfl⟩ := ptB_of hd
      rw [nI_clamp p2]
      obtain ⟨b, hb⟩ := hI.bp hG
      have hN := hb.N
      obtain ⟨h2, q2, c2⟩ := sp_BO_sumAt d hb p1
      have Q2 := hI.bq q2
      have I2 := Q2.2
      obtain ⟨b2, hb2⟩ := I2.bp hG
      obtain ⟨h3, q3, c3⟩ := sp_BO_cornerCount (d + 1) hb2
      have Q3 := Q2.tr (I2.bq q3)
      have hs : sumN U.1 U.2.1 p < 2 ^ 31 := by
        have := smF_le (f := fun c => crow U.1 U.2.1 c p) (b := 32) (fun c => Nat.le_of_lt (rowF_lt _ _ _ _)) (cornS U.1 U.2.1).length
        unfold sumN
        omega
      repeat (refine R_s kC9 rfl rfl ?_)
      refine R_get kC9 rfl (hI.ob) rfl ?_
      repeat (refine R_s kC9 rfl rfl ?_)
      refine R_cv kC9 rfl rfl rfl rfl hb.1.ob (by omega) c2 ?_
      repeat (refine R_s kC9 rfl rfl ?_)
      refine R_get kC9 rfl I2.ob rfl ?_
      refine R_cv kC9 rfl rfl rfl rfl hb2.1.ob (by omega) c3 ?_
      repeat (refine R_s kC9 rfl rfl ?_)
      refine R_cs kC9 rfl rfl rfl rfl (nb_fraction (d + 8) hG.2.2.2.2.2.1 (show sumN U.1 U.2.1 p < 2 ^ 31 from hs) (by omega) w) ?_
      rw [Nat.gcd_comm]
      exact R_rl kC9 rfl ⟨rfl, Q3⟩
    · rw [he, if_neg (by decide)]
      repeat (refine R_s kC9 rfl rfl ?_)
      exact R_rl kC9 rfl ⟨rfl, NQ.rfl' hI⟩
end
