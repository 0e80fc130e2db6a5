/-! THE CLASS, 9: Family: canLose, join -/
/-- two sets of a family that lie in c, other than c, meet and make it up -/
def mkUp (S : Int32) (c a b : Nat) : Prop := bt S a = true ∧ bt S b = true ∧ a &&& c = a ∧ b &&& c = b ∧ a &&& b ≠ 0 ∧ a ||| b = c
theorem and_le_of {a c : Nat} (h : a &&& c = a) : a ≤ c := by rw [← h]; exact Nat.and_le_right
theorem or_sub : ∀ a, a < 32 → ∀ b, b < 32 → a &&& (a ||| b) = a ∧ b &&& (a ||| b) = b := by decide +kernel
theorem letB_iff {n c : Nat} {S : Int32} (hF : Fam n S) (hc : c < 32) (hin : bt S c = true) : letB n S c = true ↔ ¬ pc c = 1 ∧ ¬ c = 2 ^ n - 1 ∧ ∀ a b, a < c → b < a → ¬ mkUp S c a b := by
  unfold letB
  rw [Bool.and_eq_true, pb_true, Bool.not_eq_true', Bool.or_eq_false_iff, decide_eq_false_iff_not, decide_eq_false_iff_not]
  constructor
  · rintro ⟨⟨h1, h2⟩, h3⟩
    refine ⟨h1, h2, fun a b ha hb hm => ?_⟩
    have := h3 a b (by omega) (by omega) (by rw [delM_bt S (by omega), hm.1, decide_eq_false (by omega)]; rfl) (by rw [delM_bt S (by omega), hm.2.1, decide_eq_false (by omega)]; rfl) hm.2.2.2.2.1
    rw [hm.2.2.2.2.2, delM_bt S hc, decide_eq_true rfl] at this
    simp at this
  · rintro ⟨h1, h2, h3⟩
    refine ⟨⟨h1, h2⟩, fun a b ha hb hA hB hm => ?_⟩
    rw [delM_bt S ha] at hA
    rw [delM_bt S hb] at hB
    simp only [Bool.and_eq_true, Bool.not_eq_true', decide_eq_false_iff_not] at hA hB
    have hab : a ||| b < 32 := Nat.or_lt_two_pow (n := 5) ha hb
    rw [delM_bt S hab, hF.2.2.2.2.2 a b ha hb hA.1 hB.1 hm, Bool.true_and, Bool.not_eq_true', decide_eq_false_iff_not]
    intro e
    obtain ⟨s1, s2⟩ := or_sub a ha b hb
    rw [e] at s1 s2
    have l1 := and_le_of s1
    have l2 := and_le_of s2
    rcases Nat.lt_trichotomy a b with q | q | q
    · exact h3 b a (by omega) q ⟨hB.1, hA.1, s2, s1, by rw [Nat.and_comm]; exact hm, by rw [Nat.or_comm]; exact e⟩
    · subst q
      rw [Nat.or_self] at e
      exact hA.2 e
    · exact h3 a b (by omega) q ⟨hA.1, hB.1, s1, s2, hm, e⟩
section
variable {h : AH} {o n : Nat} {S Lm : Int32}
theorem inn_bt (S : Int32) {c t : Nat} (ht : t < 32) (h1 : 1 ≤ t) : bt (S &&& wiM c) t = true ↔ bt S t = true ∧ t &&& c = t := by
  rw [b_and]
  unfold wiM
  rw [maskOf_bt _ ht, decide_eq_true h1, Bool.true_and, Bool.and_eq_true, decide_eq_true_eq]
theorem lc_canLoseB (d : Nat) (Q : Option Value → AH → Prop) {c a : Nat} (hc : c < 32) (ha : a < c) (bad : (∃ b, b < a ∧ mkUp S c a b) → Q (some (.int (nI 0))) h) (kk : ∀ w : Option Value, (∀ b, 1 ≤ b → b < a → ¬ mkUp S c a b) → R d 48 50 [some (.ref o), some (.int (nI c)), some (.int (S &&& wiM c)), some (.int (nI a)), w] [] h Q) : ∀ (m b : Nat), b + m = a → 1 ≤ b → (∀ q, 1 ≤ q → q < b → ¬ mkUp S c a q) → R d 48 22 [some (.ref o), some (.int (nI c)), some (.int (S &&& wiM c)), some (.int (nI a)), some (.int (nI b))] [] h Q := by
  have kC9 := co_FA_canLose
  intro m
  induction m with
  | zero =>
    intro b hb hb1 hq
    repeat (refine R_s kC9 rfl rfl ?_)
    refine R_ge kC9 rfl (rfl) (rfl) (by omega) (by omega) (fun hc => ?_) (fun hc => ?_)
    · exact kk _ (fun q q1 q2 => hq q q1 (by omega))
    · omega
  | succ m ih =>
    intro b hb hb1 hq
    have next : ¬ mkUp S c a b → R d 48 48 [some (.ref o), some (.int (nI c)), some (.int (S &&& wiM c)), some (.int (nI a)), some (.int (nI b))] [] h Q := by
      intro hn
      repeat (refine R_s kC9 rfl rfl ?_)
      refine R_g kC9 rfl ?_
      refine (show R d 48 22 [some (.ref o), some (.int (nI c)), some (.int (S &&& wiM c)), some (.int (nI a)), some (.int (nI b + nI 1))] [] h Q from ?_)
      rw [nI_add]
      refine ih (b + 1) (by omega) (by omega) (fun q q1 q2 => ?_)
      by_cases e : q = b
      · rw [e]; exact hn
      · exact hq q q1 (by omega)
    repeat (refine R_s kC9 rfl rfl ?_)
    refine R_ge kC9 rfl (rfl) (rfl) (by omega) (by omega) (fun hc => ?_) (fun hc => ?_)
    · omega
    · repeat (refine R_s kC9 rfl rfl ?_)
      refine (show R d 48 30 [some (.ref o), some (.int (nI c)), some (.int (S &&& wiM c)), some (.int (nI a)), some (.int (nI b))] [.int (ushr (S &&& wiM c) (nI a) &&& nI 1)] h Q from ?_)
      rw [ushr_bt (by omega)]
      refine ZB_eq kC9 rfl (fun hd => ?_) (fun hd => ?_)
      · refine kk _ (fun q q1 q2 hm => ?_)
        have := (inn_bt S (show a < 32 by omega) (by omega)).mpr ⟨hm.1, hm.2.2.1⟩
        rw [hd] at this
        cases this
      · repeat (refine R_s kC9 rfl rfl ?_)
        refine (show R d 48 36 [some (.ref o), some (.int (nI c)), some (.int (S &&& wiM c)), some (.int (nI a)), some (.int (nI b))] [.int (ushr (S &&& wiM c) (nI b) &&& nI 1)] h Q from ?_)
        rw [ushr_bt (by omega)]
        refine ZB_eq kC9 rfl (fun he => ?_) (fun he => ?_)
        · refine next (fun hm => ?_)
          have := (inn_bt S (show b < 32 by omega) (by omega)).mpr ⟨hm.2.1, hm.2.2.2.1⟩
          rw [he] at this
          cases this
        · have ia := (inn_bt S (show a < 32 by omega) (by omega)).mp hd
          have ib := (inn_bt S (show b < 32 by omega) (by omega)).mp he
          have hab2 : a &&& b < 32 := Nat.lt_of_le_of_lt Nat.and_le_left (by omega)
          have hab : a ||| b < 32 := Nat.or_lt_two_pow (n := 5) (by omega) (by omega)
          repeat (refine R_s kC9 rfl rfl ?_)
          refine (show R d 48 40 [some (.ref o), some (.int (nI c)), some (.int (S &&& wiM c)), some (.int (nI a)), some (.int (nI b))] [.int (nI a &&& nI b)] h Q from ?_)
          rw [nx_and]
          refine Z_eq kC9 rfl rfl (by omega) (fun hf => ?_) (fun hf => ?_)
          · exact next (fun hm => hm.2.2.2.2.1 hf)
          · repeat (refine R_s kC9 rfl rfl ?_)
            refine (show R d 48 45 [some (.ref o), some (.int (nI c)), some (.int (S &&& wiM c)), some (.int (nI a)), some (.int (nI b))] [.int (nI c), .int (nI a ||| nI b)] h Q from ?_)
            rw [nx_or]
            refine R_ne kC9 rfl rfl rfl (by omega) (by omega) (fun hg => ?_) (fun hg => ?_)
            · exact next (fun hm => hg hm.2.2.2.2.2)
            · repeat (refine R_s kC9 rfl rfl ?_)
              exact R_rz kC9 rfl (Or.inl rfl) (bad ⟨b, by omega, ia.1, ib.1, ia.2, ib.2, hf, hg⟩)
theorem lc_canLoseA (d : Nat) {c : Nat} (hc : c < 32) : ∀ (m a : Nat) (w : Option Value), a + m = c → 1 ≤ a → (∀ x y, x < a → 1 ≤ y → y < x → ¬ mkUp S c x y) → R d 48 17 [some (.ref o), some (.int (nI c)), some (.int (S &&& wiM c)), some (.int (nI a)), w] [] h (fun r2 h2 => r2 = some (.int (b2i (pb (∀ x y, x < c → 1 ≤ y → y < x → ¬ mkUp S c x y)))) ∧ h2 = h) := by
  have kC9 := co_FA_canLose
  intro m
  induction m with
  | zero =>
    intro a w ha ha1 hq
    repeat (refine R_s kC9 rfl rfl ?_)
    refine R_ge kC9 rfl (rfl) (rfl) (by omega) (by omega) (fun hc => ?_) (fun hc => ?_)
    · repeat (refine R_s kC9 rfl rfl ?_)
      exact R_rz kC9 rfl (Or.inr rfl) ⟨ri_eq (b2i_t (pb_true.mpr (fun x y x1 x2 x3 => hq x y (by omega) x2 x3))), rfl⟩
    · omega
  | succ m ih =>
    intro a w ha ha1 hq
    repeat (refine R_s kC9 rfl rfl ?_)
    refine R_ge kC9 rfl (rfl) (rfl) (by omega) (by omega) (fun hc => ?_) (fun hc => ?_)
    · omega
    · iterate 2 (refine R_s kC9 rfl rfl ?_)
      refine lc_canLoseB d _ (show c < 32 by omega) (by omega) (fun q => ?_) (fun w2 q => ?_) (a - 1) 1 (by omega) (by omega) (fun q q1 q2 => by omega)
      · obtain ⟨b, b1, b2⟩ := q
        refine ⟨ri_eq (b2i_f (pb_false.mpr (fun z => ?_))), rfl⟩
        have : 1 ≤ b := by
          cases b with
          | zero => exact absurd (Nat.and_zero a) b2.2.2.2.2.1
          | succ b => omega
        exact z a b (by omega) this b1 b2
      · repeat (refine R_s kC9 rfl rfl ?_)
        refine R_g kC9 rfl ?_
        refine (show R d 48 17 [some (.ref o), some (.int (nI c)), some (.int (S &&& wiM c)), some (.int (nI a + nI 1)), w2] [] h _ from ?_)
        rw [nI_add]
        refine ih (a + 1) w2 (by omega) (by omega) (fun x y x1 x2 x3 => ?_)
        by_cases e : x = a
        · subst e; exact q y x2 x3
        · exact hq x y (by omega) x2 x3
theorem sp_FA_canLose (d : Nat) (hF : FamC h o n S Lm) (h0 : h.2 0 = ints 5 havF) (hf : Fam n S) {c : Nat} (hin : bt S c = true) (hc1 : 1 ≤ c) (hc : c < 32) : Cl (d + 1) 48 [.ref o, .int (nI c)] h (some (.int (b2i (letB n S c)))) h := by
  have kC9 := co_FA_canLose
  refine Cl_of kC9 rfl rfl ?_
  have hn := hf.2.1
  have p5 := pow5 hn
  have hl := letB_iff hf hc hin
  repeat (refine R_s kC9 rfl rfl ?_)
  refine R_cs kC9 rfl rfl rfl rfl (sp_FA_isSingle d hc1 hc) ?_
  refine ZB_ne kC9 rfl (fun hd => ?_) (fun hd => ?_)
  · repeat (refine R_s kC9 rfl rfl ?_)
    exact R_rz kC9 rfl (Or.inl rfl) ⟨ri_eq (b2i_f (by cases hq : letB n S c with | false => rfl | true => exact absurd (of_decide_eq_true hd) (hl.mp hq).1)), rfl⟩
  · repeat (refine R_s kC9 rfl rfl ?_)
    refine R_cv kC9 rfl rfl rfl rfl hF.2 hF.1 (sp_FA_whole d hF hn) ?_
    refine R_ne kC9 rfl rfl rfl (by omega) (by omega) (fun he => ?_) (fun he => ?_)
    · repeat (refine R_s kC9 rfl rfl ?_)
      refine R_get kC9 rfl (hF.2) rfl ?_
      repeat (refine R_s kC9 rfl rfl ?_)
      refine R_cs kC9 rfl rfl rfl rfl (sp_NB_within d h0 hc) ?_
      iterate 4 (refine R_s kC9 rfl rfl ?_)
      have key := lc_canLoseA (o := o) (h := h) (S := S) (d + 1) hc (c - 1) 1 none (by omega) (by omega) (fun x y x1 x2 x3 => by omega)
      have e : pb (∀ x y, x < c → 1 ≤ y → y < x → ¬ mkUp S c x y) = letB n S c := by
        cases hq : letB n S c with
        | true => exact pb_true.mpr (fun x y x1 x2 x3 => (hl.mp hq).2.2 x y x1 x3)
        | false =>
          apply pb_false.mpr
          intro z
          have : letB n S c = true := hl.mpr ⟨of_decide_eq_false hd, he, fun a b a1 b1 hm => ?_⟩
          · rw [hq] at this; cases this
          · have : 1 ≤ b := by
              cases b with
              | zero => exact absurd (Nat.and_zero a) hm.2.2.2.2.1
              | succ b => omega
            exact z a b a1 this b1 hm
      rw [e] at key
      exact key
    · repeat (refine R_s kC9 rfl rfl ?_)
      exact R_rz kC9 rfl (Or.inl rfl) ⟨ri_eq (b2i_f (by cases hq : letB n S c with | false => rfl | true => exact absurd he (hl.mp hq).2.1)), rfl⟩
/-- where join's one way up stands -/
def JI (n : Nat) (S0 Sc : Int32) (a b : Nat) : Prop := (∀ s, s < 32 → bt S0 s = true → bt Sc s = true) ∧ (∀ X, clsd X → (∀ s, s < 32 → bt S0 s = true → X s = true) → ∀ s, s < 32 → bt Sc s = true → X s = true) ∧ (∀ s, s < 32 → bt Sc s = true → 1 ≤ s ∧ s < 2 ^ n) ∧ ∀ x y, x < 32 → y < x → (x < a ∨ (x = a ∧ y < b)) → bt Sc x = true → bt Sc y = true → x &&& y ≠ 0 → bt Sc (x ||| y) = true
theorem JI.skip {S0 Sc : Int32} {a b : Nat} (hI : JI n S0 Sc a b) (hn : ¬ (bt Sc a = true ∧ bt Sc b = true ∧ a &&& b ≠ 0)) : JI n S0 Sc a (b + 1) := by
  refine ⟨hI.1, hI.2.1, hI.2.2.1, fun x y hx hy hp h1 h2 h3 => ?_⟩
  by_cases e : x = a ∧ y = b
  · obtain ⟨rfl, rfl⟩ := e
    exact absurd ⟨h1, h2, h3⟩ hn
  · exact hI.2.2.2 x y hx hy (by omega) h1 h2 h3
theorem JI.add {S0 Sc : Int32} {a b : Nat} (hn : n ≤ 5) (hI : JI n S0 Sc a b) (ha : a < 32) (hb : b < a) (hA : bt Sc a = true) (hB : bt Sc b = true) (hm : a &&& b ≠ 0) : JI n S0 (addM Sc (a ||| b)) a (b + 1) := by
  have hab : a ||| b < 32 := Nat.or_lt_two_pow (n := 5) ha (by omega)
  have hge : a ≤ a ||| b := Nat.left_le_or
  have b1 := hI.2.2.1 a ha hA
  have b2 := hI.2.2.1 b (by omega) hB
  refine ⟨fun s hs h1 => by rw [addM_bt Sc hab hs, hI.1 s hs h1]; rfl, fun X hX hS s hs h1 => ?_, fun s hs h1 => ?_, fun x y hx hy hp h1 h2 h3 => ?_⟩
  · rw [addM_bt Sc hab hs, Bool.or_eq_true, decide_eq_true_eq] at h1
    rcases h1 with h1 | h1
    · exact hI.2.1 X hX hS s hs h1
    · rw [h1]
      exact hX a b ha (by omega) (hI.2.1 X hX hS a ha hA) (hI.2.1 X hX hS b (by omega) hB) hm
  · rw [addM_bt Sc hab hs, Bool.or_eq_true, decide_eq_true_eq] at h1
    rcases h1 with h1 | h1
    · exact hI.2.2.1 s hs h1
    · rw [h1]
      exact ⟨by omega, Nat.or_lt_two_pow b1.2 b2.2⟩
  · have hxy : x ||| y < 32 := Nat.or_lt_two_pow (n := 5) hx (by omega)
    rw [addM_bt Sc hab hxy, Bool.or_eq_true, decide_eq_true_eq]
    rw [addM_bt Sc hab hx, Bool.or_eq_true, decide_eq_true_eq] at h1
    rw [addM_bt Sc hab (by omega), Bool.or_eq_true, decide_eq_true_eq] at h2
    have h1' : bt Sc x = true := by
      rcases h1 with h1 | h1
      · exact h1
      · have : x = a := by omega
        rw [this]; exact hA
    have h2' : bt Sc y = true := by
      rcases h2 with h2 | h2
      · exact h2
      · omega
    by_cases e : x = a ∧ y = b
    · right; rw [e.1, e.2]
    · left; exact hI.2.2.2 x y hx hy (by omega) h1' h2' h3
theorem JI.next {S0 Sc : Int32} {a b : Nat} (hI : JI n S0 Sc a b) (hb : a ≤ b) : JI n S0 Sc (a + 1) 1 := by
  refine ⟨hI.1, hI.2.1, hI.2.2.1, fun x y hx hy hp h1 h2 h3 => ?_⟩
  by_cases e : x = a + 1
  · have : y = 0 := by omega
    subst this
    exact absurd (Nat.and_zero x) h3
  · exact hI.2.2.2 x y hx hy (by omega) h1 h2 h3
theorem JI.closed {S0 Sc : Int32} {b : Nat} (hI : JI n S0 Sc (2 ^ n) b) : Sc = closeS S0 := by
  refine close_eq hI.1 hI.2.1 (fun a b ha hb hA hB hm => ?_)
  have la := (hI.2.2.1 a ha hA).2
  have lb := (hI.2.2.1 b hb hB).2
  rcases Nat.lt_trichotomy a b with q | q | q
  · rw [Nat.or_comm]
    exact hI.2.2.2 b a hb q (Or.inl lb) hB hA (by rw [Nat.and_comm]; exact hm)
  · subst q; rw [Nat.or_self]; exact hA
  · exact hI.2.2.2 a b ha q (Or.inl la) hA hB hm
abbrev faH (h : AH) (o n : Nat) (S Lm : Int32) : AH := upH h o (objA 2 [.int (nI n), .int S, .int Lm])
theorem lc_joinB (d : Nat) (Q : Option Value → AH → Prop) (ho : 3 ≤ o) (hn : n ≤ 5) {S0 : Int32} {a : Nat} (ha : a < 2 ^ n) (ha1 : 1 ≤ a) (w : Int32) (kk : ∀ (Sc : Int32) (w3 : Option Value), JI n S0 Sc (a + 1) 1 → R (d + 3) 47 43 [some (.ref o), some (.int w), some (.int (nI a)), w3] [] (faH h o n Sc Lm) Q) : ∀ (m b : Nat) (Sc : Int32), b + m = a → 1 ≤ b → JI n S0 Sc a b → R (d + 3) 47 16 [some (.ref o), some (.int w), some (.int (nI a)), some (.int (nI b))] [] (faH h o n Sc Lm) Q := by
  have kC9 := co_FA_join
  have p5 := pow5 hn
  have p1 : 1 ≤ 2 ^ n := Nat.one_le_two_pow
  intro m
  induction m with
  | zero =>
    intro b Sc hb hb1 hI
    repeat (refine R_s kC9 rfl rfl ?_)
    refine R_ge kC9 rfl (rfl) (rfl) (by omega) (by omega) (fun hc => ?_) (fun hc => ?_)
    · exact kk Sc _ (hI.next (by omega))
    · omega
  | succ m ih =>
    intro b Sc hb hb1 hI
    have hFc : ∀ X : Int32, FamC (faH h o n X Lm) o n X Lm := fun X => ⟨ho, upH_at _ _ _⟩
    have hab2 : a &&& b < 32 := Nat.lt_of_le_of_lt Nat.and_le_left (by omega)
    have hab : a ||| b < 32 := Nat.or_lt_two_pow (n := 5) (by omega) (by omega)
    have next : ∀ X : Int32, JI n S0 X a (b + 1) → R (d + 3) 47 41 [some (.ref o), some (.int w), some (.int (nI a)), some (.int (nI b))] [] (faH h o n X Lm) Q := by
      intro X hX
      repeat (refine R_s kC9 rfl rfl ?_)
      refine R_g kC9 rfl ?_
      refine (show R (d + 3) 47 16 [some (.ref o), some (.int w), some (.int (nI a)), some (.int (nI b + nI 1))] [] _ Q from ?_)
      rw [nI_add]
      exact ih (b + 1) X (by omega) (by omega) hX
    repeat (refine R_s kC9 rfl rfl ?_)
    refine R_ge kC9 rfl (rfl) (rfl) (by omega) (by omega) (fun hc => ?_) (fun hc => ?_)
    · omega
    · repeat (refine R_s kC9 rfl rfl ?_)
      refine R_cv kC9 rfl rfl rfl rfl (hFc Sc).2 ho (sp_FA_holds d (hFc Sc) hn (nI a)) ?_
      rw [inF_nI (by omega), decide_eq_true (show 1 ≤ a ∧ a < 2 ^ n from ⟨ha1, ha⟩), Bool.true_and]
      refine ZB_eq kC9 rfl (fun hd => ?_) (fun hd => ?_)
      · refine kk Sc _ ⟨hI.1, hI.2.1, hI.2.2.1, fun x y hx hy hp h1 h2 h3 => ?_⟩
        by_cases e : x = a
        · subst e; rw [hd] at h1; cases h1
        · by_cases e2 : x = a + 1
          · have : y = 0 := by omega
            subst this
            exact absurd (Nat.and_zero x) h3
          · exact hI.2.2.2 x y hx hy (by omega) h1 h2 h3
      · repeat (refine R_s kC9 rfl rfl ?_)
        refine (show R (d + 3) 47 26 [some (.ref o), some (.int w), some (.int (nI a)), some (.int (nI b))] [.int (nI a &&& nI b)] _ Q from ?_)
        rw [nx_and]
        refine Z_eq kC9 rfl rfl (by omega) (fun hf => ?_) (fun hf => ?_)
        · exact next Sc (hI.skip (fun q => q.2.2 hf))
        · repeat (refine R_s kC9 rfl rfl ?_)
          refine R_cv kC9 rfl rfl rfl rfl (hFc Sc).2 ho (sp_FA_holds d (hFc Sc) hn (nI b)) ?_
          rw [inF_nI (by omega), decide_eq_true (show 1 ≤ b ∧ b < 2 ^ n from ⟨by omega, by omega⟩), Bool.true_and]
          refine ZB_eq kC9 rfl (fun hg => ?_) (fun hg => ?_)
          · refine next Sc (hI.skip (fun q => ?_))
            have := q.2.1
            rw [hg] at this
            cases this
          · repeat (refine R_s kC9 rfl rfl ?_)
            refine R_get kC9 rfl ((hFc Sc).2) rfl ?_
            repeat (refine R_s kC9 rfl rfl ?_)
            refine R_put kC9 rfl (hFc Sc).2 ho (Nat.le_of_ble_eq_true rfl) rfl ?_
            rw [upH_upH]
            refine (show R (d + 3) 47 41 _ [] (faH h o n (Sc ||| (nI 1 <<< ((nI a ||| nI b) &&& 31))) Lm) Q from ?_)
            rw [nx_or]
            exact next _ (hI.add hn (by omega) (by omega) hd hg hf)
theorem lc_joinA (d : Nat) (Q : Option Value → AH → Prop) (ho : 3 ≤ o) (hn : n ≤ 5) {S0 : Int32} (w : Int32) (kk : Q none (faH h o n (closeS S0) Lm)) : ∀ (m a : Nat) (Sc : Int32) (w3 : Option Value), a + m = 2 ^ n → 1 ≤ a → JI n S0 Sc a 1 → R (d + 3) 47 10 [some (.ref o), some (.int w), some (.int (nI a)), w3] [] (faH h o n Sc Lm) Q := by
  have kC9 := co_FA_join
  have p5 := pow5 hn
  have p1 : 1 ≤ 2 ^ n := Nat.one_le_two_pow
  have hFc : ∀ X : Int32, FamC (faH h o n X Lm) o n X Lm := fun X => ⟨ho, upH_at _ _ _⟩
  intro m
  induction m with
  | zero =>
    intro a Sc w3 ha ha1 hI
    repeat (refine R_s kC9 rfl rfl ?_)
    refine R_cv kC9 rfl rfl rfl rfl (hFc Sc).2 ho (sp_FA_whole (d + 2) (hFc Sc) hn) ?_
    refine R_gt kC9 rfl rfl rfl (by omega) (by omega) (fun hd => ?_) (fun hd => by omega)
    have : a = 2 ^ n := by omega
    subst this
    rw [hI.closed]
    exact R_rv kC9 rfl kk
  | succ m ih =>
    intro a Sc w3 ha ha1 hI
    repeat (refine R_s kC9 rfl rfl ?_)
    refine R_cv kC9 rfl rfl rfl rfl (hFc Sc).2 ho (sp_FA_whole (d + 2) (hFc Sc) hn) ?_
    refine R_gt kC9 rfl rfl rfl (by omega) (by omega) (fun hd => by omega) (fun hd => ?_)
    iterate 2 (refine R_s kC9 rfl rfl ?_)
    refine lc_joinB d Q ho hn (by omega) ha1 w (fun X w4 hX => ?_) (a - 1) 1 Sc (by omega) (by omega) hI
    repeat (refine R_s kC9 rfl rfl ?_)
    refine R_g kC9 rfl ?_
    refine (show R (d + 3) 47 10 [some (.ref o), some (.int w), some (.int (nI a + nI 1)), w4] [] _ Q from ?_)
    rw [nI_add]
    exact ih (a + 1) X w4 (by omega) (by omega) hX
theorem sp_FA_join (d : Nat) (hF : FamC h o n S Lm) (hf : Fam n S) {c : Nat} (hc1 : 1 ≤ c) (hc : c < 2 ^ n) : Cl (d + 3) 47 [.ref o, .int (nI c)] h none (faH h o n (closeS (addM S c)) Lm) := by
  have kC9 := co_FA_join
  refine Cl_of kC9 rfl rfl ?_
  have hn := hf.2.1
  have p5 := pow5 hn
  repeat (refine R_s kC9 rfl rfl ?_)
  refine R_get kC9 rfl (hF.2) rfl ?_
  repeat (refine R_s kC9 rfl rfl ?_)
  refine R_put kC9 rfl hF.2 hF.1 (Nat.le_of_ble_eq_true rfl) rfl ?_
  iterate 2 (refine R_s kC9 rfl rfl ?_)
  refine lc_joinA d _ hF.1 hn (nI c) ⟨rfl, rfl⟩ (2 ^ n - 1) 1 _ none (by omega) (Nat.le_refl 1) ⟨fun s _ h1 => h1, fun X _ hS s hs h1 => hS s hs h1, fun s hs h1 => ?_, fun x y hx hy hp h1 h2 h3 => ?_⟩
  · rw [show S ||| (nI 1 <<< (nI c &&& 31)) = addM S c from rfl, addM_bt S (by omega) hs, Bool.or_eq_true, decide_eq_true_eq] at h1
    rcases h1 with h1 | h1
    · exact hf.2.2.1 s hs h1
    · omega
  · have : y = 0 := by omega
    subst this
    exact absurd (Nat.and_zero x) h3
theorem joinS_eq (hf : Fam n S) {c : Nat} (hc : c < 32) : closeS (addM S c) = joinS S c := by
  unfold joinS
  split
  · rename_i hin
    have : addM S c = S := b_ext (fun i hi => by
      rw [addM_bt S hc hi]
      by_cases e : i = c
      · subst e; rw [hin]; rfl
      · rw [decide_eq_false e, Bool.or_false])
    rw [this]
    exact (close_eq (fun s _ h1 => h1) (fun X _ hS s hs h1 => hS s hs h1) hf.2.2.2.2.2).symm
  · rfl
end
