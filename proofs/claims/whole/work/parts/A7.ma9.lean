/-! MATHEMATICS, 9: what every call keeps -/
section
variable {n : Nat} {S Lm : Int32}
def kdC (k n s : Nat) : Bool := match k with
  | 0 => false
  | 1 => runB (nI s)
  | 2 => runB (nI s) || runB (nI ((2 ^ n - 1) ^^^ s))
  | 3 => true
  | 4 => s.testBit 0
  | 5 => s.testBit 0 && runB (nI s)
  | _ => false
def kdF (k n s : Nat) : Bool := decide (1 ≤ s ∧ s < 2 ^ n) && (decide (pc s = 1) || decide (s = 2 ^ n - 1) || kdC k n s)
def kdAll : Bool := (List.range 6).all (fun k => (List.range 6).all (fun n => (List.range 32).all (fun a => !kdF k n a || (List.range 32).all (fun b => !kdF k n b || decide (a &&& b = 0) || kdF k n (a ||| b)))))
theorem kdAll_t : kdAll = true := by decide +kernel
theorem kd_cl {k n a b : Nat} (hk : k < 6) (hn : n < 6) (ha : a < 32) (hb : b < 32) (h1 : kdF k n a = true) (h2 : kdF k n b = true) (h3 : a &&& b ≠ 0) : kdF k n (a ||| b) = true := by
  have h := List.all_eq_true.mp kdAll_t k (List.mem_range.mpr hk)
  have h := List.all_eq_true.mp h n (List.mem_range.mpr hn)
  have h := List.all_eq_true.mp h a (List.mem_range.mpr ha)
  rw [h1] at h
  have h : ((List.range 32).all fun b => !kdF k n b || decide (a &&& b = 0) || kdF k n (a ||| b)) = true := h
  have h := List.all_eq_true.mp h b (List.mem_range.mpr hb)
  rw [h2, decide_eq_false h3] at h
  exact h
theorem lnB_sym {a b : Nat} (hab : a ≠ b) : lnB Lm a b = lnB Lm b a := by
  unfold lnB lnX
  by_cases h : a < b
  · rw [if_pos h, if_neg (by omega)]
  · rw [if_neg h, if_pos (by omega)]
theorem low_or : ∀ a, a < 32 → ∀ b, b < 32 → a ≠ 0 → b ≠ 0 → lowN (a ||| b) = lowN a ∨ lowN (a ||| b) = lowN b := by decide +kernel
theorem low_ex : ∀ a, a < 32 → a ≠ 0 → ∃ l, l < 5 ∧ lowN a = 2 ^ l := by decide +kernel
theorem tb5' {s q : Nat} (hs : s < 32) (h : s.testBit q = true) : q < 5 := by
  apply Classical.byContradiction
  intro hq
  have : s < 2 ^ q := Nat.lt_of_lt_of_le hs (Nat.pow_le_pow_right (n := 2) (by omega) (show 5 ≤ q by omega))
  rw [Nat.testBit_lt_two_pow this] at h
  cases h
theorem hang_or1 {a b : Nat} (ha : a < 32) (hb : b < 32) (b0 : b ≠ 0) (h1 : hangP Lm a) (h2 : hangP Lm b) (h3 : a &&& b ≠ 0) (hl : lowN (a ||| b) = lowN a) : hangP Lm (a ||| b) := by
  intro X hX
  have hXa : goodX Lm a X := ⟨hX.1, fun q hq => hX.2.1 q (by rw [hl]; exact hq), fun x y hx hy hne hxX hys hln => hX.2.2 x y hx hy hne hxX (by rw [Nat.testBit_or, hys]; rfl) hln⟩
  have aX := h1 X hXa
  obtain ⟨q, hq⟩ : ∃ q, (a &&& b).testBit q = true := Nat.exists_testBit_of_ne_zero h3
  rw [Nat.testBit_and, Bool.and_eq_true] at hq
  have qX := aX q hq.1
  have bX : ∀ q, b.testBit q = true → X.testBit q = true := by
    obtain ⟨l, l5, el⟩ := low_ex b hb b0
    by_cases hlX : X.testBit l = true
    · refine h2 X ⟨hX.1, fun q hq => ?_, fun x y hx hy hne hxX hys hln => hX.2.2 x y hx hy hne hxX (by rw [Nat.testBit_or, hys, Bool.or_true]) hln⟩
      rw [el, Nat.testBit_two_pow, decide_eq_true_eq] at hq
      rw [← hq]; exact hlX
    · exfalso
      have lb : b.testBit l = true := by
        have : (lowN b).testBit l = true := by rw [el, Nat.testBit_two_pow, decide_eq_true rfl]
        unfold lowN at this
        rw [Nat.testBit_and, Bool.and_eq_true] at this
        exact this.1
      have hY : goodX Lm b (b &&& (31 ^^^ X)) := by
        have tb : ∀ q, q < 5 → (b &&& (31 ^^^ X)).testBit q = (b.testBit q && !X.testBit q) := by
          intro q hq
          rw [Nat.testBit_and, Nat.testBit_xor, show (31 : Nat) = 2 ^ 5 - 1 by rfl, Nat.testBit_two_pow_sub_one, decide_eq_true hq]
          cases b.testBit q <;> cases X.testBit q <;> rfl
        refine ⟨Nat.lt_of_le_of_lt Nat.and_le_left hb, fun q hq => ?_, fun x y hx hy hne hxX hys hln => ?_⟩
        · rw [el, Nat.testBit_two_pow, decide_eq_true_eq] at hq
          rw [← hq, tb l l5, lb]
          simp only [Bool.not_eq_true] at hlX
          rw [hlX]; rfl
        · rw [tb x hx, Bool.and_eq_true, Bool.not_eq_true'] at hxX
          rw [tb y hy, hys, Bool.true_and, Bool.not_eq_true']
          cases hyX : X.testBit y with
          | false => rfl
          | true =>
            have := hX.2.2 y x hy hx (fun e => hne e.symm) hyX (by rw [Nat.testBit_or, hxX.1, Bool.or_true]) (by rw [lnB_sym (fun e => hne e.symm)]; exact hln)
            rw [hxX.2] at this; cases this
      have := h2 _ hY q hq.2
      rw [Nat.testBit_and, Nat.testBit_xor, show (31 : Nat) = 2 ^ 5 - 1 by rfl, Nat.testBit_two_pow_sub_one, decide_eq_true (tb5' hb hq.2), qX, hq.2] at this
      cases this
  intro q hq
  rw [Nat.testBit_or, Bool.or_eq_true] at hq
  rcases hq with z | z
  · exact aX q z
  · exact bX q z
theorem hang_or {a b : Nat} (ha : a < 32) (hb : b < 32) (h1 : hangP Lm a) (h2 : hangP Lm b) (h3 : a &&& b ≠ 0) : hangP Lm (a ||| b) := by
  have a0 : a ≠ 0 := fun e => h3 (by rw [e, Nat.zero_and])
  have b0 : b ≠ 0 := fun e => h3 (by rw [e, Nat.and_zero])
  rcases low_or a ha b hb a0 b0 with z | z
  · exact hang_or1 ha hb b0 h1 h2 h3 z
  · rw [Nat.or_comm] at z ⊢
    exact hang_or1 hb ha a0 h2 h1 (by rw [Nat.and_comm]; exact h3) z
theorem one_or : ∀ a, a < 32 → ∀ b, b < 32 → pc a = 1 → a &&& b ≠ 0 → a ||| b = b := by decide +kernel
theorem whole_or : ∀ n, n ≤ 5 → ∀ a, a < 2 ^ n → (2 ^ n - 1) ||| a = 2 ^ n - 1 := by decide +kernel
theorem pow_sgl : ∀ n, n ≤ 5 → ∀ p, p < n → pc (2 ^ p) = 1 ∧ 1 ≤ 2 ^ p ∧ 2 ^ p < 2 ^ n ∧ 2 ^ p < 32 := by decide +kernel
theorem makeS_bt {k s : Nat} (hs : s < 32) : bt (makeS n Lm k) s = makeF n Lm k s := maskOf_bt _ hs
/-- every kind is a family -/
theorem Fam.make (h2 : 2 ≤ n) (h5 : n ≤ 5) (k : Nat) : Fam n (makeS n Lm k) := by
  have p5 := pow5 h5
  have p1 : 1 ≤ 2 ^ n := Nat.one_le_two_pow
  have p4 : 4 ≤ 2 ^ n := Nat.pow_le_pow_right (n := 2) (by omega) h2
  refine ⟨h2, h5, fun s hs hb => ?_, fun p hp => ?_, ?_, fun a b ha hb h1 h3 h4 => ?_⟩
  · rw [makeS_bt hs] at hb
    unfold makeF at hb
    rw [Bool.and_eq_true] at hb
    exact of_decide_eq_true hb.1
  · obtain ⟨q1, q2, q3, q4⟩ := pow_sgl n h5 p hp
    rw [makeS_bt q4]
    unfold makeF
    rw [decide_eq_true ⟨q2, q3⟩, kindF_1 q1]; rfl
  · rw [makeS_bt (by omega)]
    unfold makeF
    rw [decide_eq_true ⟨by omega, by omega⟩, kindF_w rfl]; rfl
  · have hab : a ||| b < 32 := Nat.or_lt_two_pow (n := 5) ha hb
    rw [makeS_bt ha] at h1
    rw [makeS_bt hb] at h3
    rw [makeS_bt hab]
    by_cases hk : k < 6
    · have e : ∀ s, makeF n Lm k s = kdF k n s := by
        intro s
        unfold makeF kindF kdF kdC
        match k, hk with
        | 0, _ => rfl
        | 1, _ => rfl
        | 2, _ => rfl
        | 3, _ => rfl
        | 4, _ => rfl
        | 5, _ => rfl
      rw [e] at h1 h3 ⊢
      exact kd_cl hk (by omega) ha hb h1 h3 h4
    · have e : ∀ s, makeF n Lm k s = true ↔ (1 ≤ s ∧ s < 2 ^ n) ∧ (pc s = 1 ∨ s = 2 ^ n - 1 ∨ hangP Lm s) := by
        intro s
        unfold makeF kindF
        match k, hk with
        | 0, hk => exact absurd (by omega) hk
        | 1, hk => exact absurd (by omega) hk
        | 2, hk => exact absurd (by omega) hk
        | 3, hk => exact absurd (by omega) hk
        | 4, hk => exact absurd (by omega) hk
        | 5, hk => exact absurd (by omega) hk
        | k + 6, _ => simp only [Bool.and_eq_true, Bool.or_eq_true, decide_eq_true_eq, pb_true, or_assoc]
      rw [e] at h1 h3 ⊢
      obtain ⟨⟨a1, a2⟩, a3⟩ := h1
      obtain ⟨⟨b1, b2⟩, b3⟩ := h3
      have rg : 1 ≤ a ||| b ∧ a ||| b < 2 ^ n := ⟨Nat.le_trans a1 Nat.left_le_or, Nat.or_lt_two_pow a2 b2⟩
      rcases a3 with z | z | z
      · rw [one_or a ha b hb z h4]
        exact ⟨⟨b1, b2⟩, b3⟩
      · rw [z, whole_or n h5 b b2]
        exact ⟨⟨by omega, by omega⟩, Or.inr (Or.inl rfl)⟩
      rcases b3 with y | y | y
      · rw [Nat.or_comm, one_or b hb a ha y (by rw [Nat.and_comm]; exact h4)]
        exact ⟨⟨a1, a2⟩, Or.inr (Or.inr z)⟩
      · rw [y, Nat.or_comm, whole_or n h5 a a2]
        exact ⟨⟨by omega, by omega⟩, Or.inr (Or.inl rfl)⟩
      · exact ⟨rg, Or.inr (Or.inr (hang_or ha hb z y h4))⟩
theorem Fam.join (hF : Fam n S) {c : Nat} (h1 : 1 ≤ c) (h2 : c < 2 ^ n) : Fam n (joinS S c) := by
  have p5 := pow5 hF.2.1
  unfold joinS
  split
  · exact hF
  have c32 : c < 32 := by omega
  have e : ∀ s, s < 32 → (bt (closeS (addM S c)) s = true ↔ lcF (bt (addM S c)) s) := by
    intro s hs
    unfold closeS
    rw [maskOf_bt _ hs]
    exact pb_true
  have inc : ∀ s, s < 32 → bt S s = true → bt (closeS (addM S c)) s = true := by
    intro s hs hb
    rw [e s hs]
    exact fun X hX hsub => hsub s hs (by rw [addM_bt S c32 hs, hb]; rfl)
  have p1 : 1 ≤ 2 ^ n := Nat.one_le_two_pow
  refine ⟨hF.1, hF.2.1, fun s hs hb => ?_, fun p hp => inc _ (pow_sgl n hF.2.1 p hp).2.2.2 (hF.2.2.2.1 p hp), inc _ (by omega) hF.2.2.2.2.1, fun a b ha hb g1 g2 g3 => ?_⟩
  · rw [e s hs] at hb
    have := hb (fun s => decide (1 ≤ s ∧ s < 2 ^ n)) (fun a b _ _ ga gb _ => by
      have ga := of_decide_eq_true ga
      have gb := of_decide_eq_true gb
      exact decide_eq_true ⟨Nat.le_trans ga.1 Nat.left_le_or, Nat.or_lt_two_pow ga.2 gb.2⟩) (fun t ht hbt => by
      rw [addM_bt S c32 ht, Bool.or_eq_true] at hbt
      rcases hbt with z | z
      · exact decide_eq_true (hF.2.2.1 t ht z)
      · have := of_decide_eq_true z
        exact decide_eq_true ⟨by omega, by omega⟩)
    exact of_decide_eq_true this
  · have hab : a ||| b < 32 := Nat.or_lt_two_pow (n := 5) ha hb
    rw [e a ha] at g1
    rw [e b hb] at g2
    rw [e _ hab]
    exact fun X hX hsub => hX a b ha hb (g1 X hX hsub) (g2 X hX hsub) g3
theorem Fam.del (hF : Fam n S) {c : Nat} (hl : letB n S c = true) : Fam n (delM S c) := by
  have p5 := pow5 hF.2.1
  have p1 : 1 ≤ 2 ^ n := Nat.one_le_two_pow
  unfold letB at hl
  rw [Bool.and_eq_true, Bool.not_eq_true', Bool.or_eq_false_iff, decide_eq_false_iff_not, decide_eq_false_iff_not, pb_true] at hl
  obtain ⟨⟨l1, l2⟩, l3⟩ := hl
  have kp : ∀ s, s < 32 → s ≠ c → bt S s = true → bt (delM S c) s = true := by
    intro s hs hne hb
    rw [delM_bt S hs, hb, decide_eq_false hne]; rfl
  refine ⟨hF.1, hF.2.1, fun s hs hb => ?_, fun p hp => ?_, kp _ (by omega) (fun e => l2 e.symm) hF.2.2.2.2.1, l3⟩
  · rw [delM_bt S hs, Bool.and_eq_true] at hb
    exact hF.2.2.1 s hs hb.1
  · have q := pow_sgl n hF.2.1 p hp
    exact kp _ q.2.2.2 (fun e => l1 (e ▸ q.1)) (hF.2.2.2.1 p hp)
theorem Lin.zero : Lin n 0 := ⟨(fun q hq hb => by rw [b_0] at hb; cases hb), fun a b _ _ => by rw [b_0, b_0]⟩
theorem Lin.set (h : Lin n Lm) (h5 : n ≤ 5) {a b : Nat} (ha : a < n) (hb : b < n) (hab : a ≠ b) (v : Bool) : Lin n (setL Lm a b v) := by
  have e : ∀ q, q < 32 → bt (setL Lm a b v) q = if q = 5 * a + b ∨ q = 5 * b + a then v else bt Lm q := fun q hq => by
    unfold setL
    rw [maskOf_bt _ hq]
  refine ⟨fun q hq hb2 => ?_, fun x y hx hy => ?_⟩
  · rw [e q hq] at hb2
    split at hb2
    · rename_i z
      rcases z with z | z <;> subst z <;> refine ⟨by omega, by omega, by omega, by omega⟩
    · exact h.1 q hq hb2
  · rw [e _ (by omega), e _ (by omega)]
    by_cases z : 5 * x + y = 5 * a + b ∨ 5 * x + y = 5 * b + a
    · rw [if_pos z, if_pos (by omega)]
    · rw [if_neg z, if_neg (by omega)]
      exact h.2 x y hx hy
end
