/-! THE REFERENCE, 3: what hangs together, kinds -/
theorem Cl_ex {α : Type} {P : α → Prop} {f : α → Option Value} {g : α → AH} {d mi nL : Nat} {av : List Value} {h : AH} {cd : List EI} {ret : Option FieldType} {ls : ALs} (hm : mt mi = (cd, nL, ret)) (hn : Nat.ble (av.flatMap slA).length nL = true) (hl : enL av nL = ls) (k : R d mi 0 ls [] h (fun r2 h2 => ∃ z, P z ∧ r2 = f z ∧ h2 = g z)) : ∃ z, P z ∧ Cl d mi av h (f z) (g z) := by
  obtain ⟨n, r2, h2, hr, z, hz, rfl, rfl⟩ := k
  exact ⟨z, hz, Cl_of hm hn hl ⟨n, _, _, hr, rfl, rfl⟩⟩
theorem upH_self {h : AH} {r : Nat} {c : AC} (hc : h.2 r = c) : upH h r c = h := by
  obtain ⟨a, f⟩ := h
  unfold upH
  congr 1
  funext q
  by_cases e : q = r
  · subst e; rw [if_pos rfl]; exact hc.symm
  · rw [if_neg e]
theorem upH_upH (h : AH) (r : Nat) (c c' : AC) : upH (upH h r c) r c' = upH h r c' := by
  obtain ⟨a, f⟩ := h
  unfold upH
  congr 1
  funext q
  by_cases e : q = r
  · rw [if_pos e, if_pos e]
  · rw [if_neg e, if_neg e]; exact if_neg e
theorem upH_comm (h : AH) {r r' : Nat} (c c' : AC) (hne : r ≠ r') : upH (upH h r c) r' c' = upH (upH h r' c') r c := by
  obtain ⟨a, f⟩ := h
  unfold upH
  congr 1
  funext q
  dsimp only
  by_cases e : q = r'
  · subst e; rw [if_pos rfl, if_neg (Ne.symm hne), if_pos rfl]
  · rw [if_neg e]
    by_cases e2 : q = r
    · rw [if_pos e2, if_pos e2]
    · rw [if_neg e2, if_neg e2, if_neg e]
theorem upH_at (h : AH) (r : Nat) (c : AC) : (upH h r c).2 r = c := if_pos rfl
theorem upH_ne (h : AH) {r q : Nat} (c : AC) (hne : q ≠ r) : (upH h r c).2 q = h.2 q := if_neg hne
def lowN (s : Nat) : Nat := s &&& (32 - s)
theorem lowN_eq : ∀ s, s < 32 → nI s &&& -nI s = nI (lowN s) := by decide +kernel
theorem lowN_sub : ∀ s, s < 32 → ∀ q, q < 5 → (lowN s).testBit q = true → s.testBit q = true := by decide +kernel
theorem lowN_lt : ∀ s, s < 32 → lowN s < 32 := by decide +kernel
theorem lowN_ne : ∀ s, s < 32 → s ≠ 0 → lowN s ≠ 0 := by decide +kernel
theorem tb5 {x q : Nat} (hx : x < 32) (h : x.testBit q = true) : q < 5 := by
  rcases Nat.lt_or_ge q 5 with h5 | h5
  · exact h5
  · rw [Nat.testBit_lt_two_pow (Nat.lt_of_lt_of_le hx (Nat.pow_le_pow_right (by omega) h5 : 2 ^ 5 ≤ 2 ^ q))] at h
    cases h
theorem tb_ext {x y : Nat} (hx : x < 32) (hy : y < 32) (h : ∀ q, q < 5 → x.testBit q = y.testBit q) : x = y := by
  apply Nat.eq_of_testBit_eq
  intro q
  rcases Nat.lt_or_ge q 5 with h5 | h5
  · exact h q h5
  · have : ∀ z, z < 32 → z.testBit q = false := fun z hz => Nat.testBit_lt_two_pow (Nat.lt_of_lt_of_le hz (Nat.pow_le_pow_right (by omega) h5 : 2 ^ 5 ≤ 2 ^ q))
    rw [this x hx, this y hy]
/-- is there a line -/
def lnB (Lm : Int32) (a b : Nat) : Bool := bt Lm (lnX a b)
/-- X has the least point of s and what is lined to it within s -/
def goodX (Lm : Int32) (s X : Nat) : Prop := X < 32 ∧ (∀ q, (lowN s).testBit q = true → X.testBit q = true) ∧ ∀ a b, a < 5 → b < 5 → a ≠ b → X.testBit a = true → s.testBit b = true → lnB Lm a b = true → X.testBit b = true
def hangP (Lm : Int32) (s : Nat) : Prop := ∀ X, goodX Lm s X → ∀ q, s.testBit q = true → X.testBit q = true
def HI (Lm : Int32) (s r0 r a b : Nat) : Prop := r < 32 ∧ (∀ q, (lowN s).testBit q = true → r.testBit q = true) ∧ (∀ q, r.testBit q = true → s.testBit q = true) ∧ (∀ X, goodX Lm s X → ∀ q, r.testBit q = true → X.testBit q = true) ∧ (∀ q, r0.testBit q = true → r.testBit q = true) ∧ ∀ a' b', a' < 5 → b' < 5 → (a' < a ∨ (a' = a ∧ b' < b)) → a' ≠ b' → r0.testBit a' = true → s.testBit b' = true → lnB Lm a' b' = true → r.testBit b' = true
theorem HI.skip {Lm : Int32} {s r0 r a b : Nat} (hI : HI Lm s r0 r a b) (hn : ¬ (a ≠ b ∧ r.testBit a = true ∧ s.testBit b = true ∧ lnB Lm a b = true)) : HI Lm s r0 r a (b + 1) := by
  obtain ⟨h1, h2, h3, h4, h5, h6⟩ := hI
  refine ⟨h1, h2, h3, h4, h5, fun a' b' ha' hb' hp hne hr hs hl => ?_⟩
  rcases hp with hp | ⟨rfl, hp⟩
  · exact h6 a' b' ha' hb' (Or.inl hp) hne hr hs hl
  · rcases Nat.lt_or_ge b' b with q | q
    · exact h6 a' b' ha' hb' (Or.inr ⟨rfl, q⟩) hne hr hs hl
    · have : b' = b := by omega
      subst this
      exact absurd ⟨hne, h5 _ hr, hs, hl⟩ hn
theorem HI.add {Lm : Int32} {s r0 r a b : Nat} (hI : HI Lm s r0 r a b) (ha : a < 5) (hb : b < 5) (hne : a ≠ b) (hra : r.testBit a = true) (hsb : s.testBit b = true) (hl : lnB Lm a b = true) : HI Lm s r0 (r ||| 2 ^ b) a (b + 1) := by
  obtain ⟨h1, h2, h3, h4, h5, h6⟩ := hI
  have tb : ∀ q, (r ||| 2 ^ b).testBit q = (r.testBit q || decide (b = q)) := fun q => by rw [Nat.testBit_or, Nat.testBit_two_pow]
  have up : ∀ q, r.testBit q = true → (r ||| 2 ^ b).testBit q = true := fun q hq => by rw [tb, hq, Bool.true_or]
  refine ⟨Nat.or_lt_two_pow (n := 5) h1 (Nat.pow_lt_pow_right (by omega) hb), fun q hq => up q (h2 q hq), fun q hq => ?_, fun X hX q hq => ?_, fun q hq => up q (h5 q hq), fun a' b' ha' hb' hp hne' hr hs hl' => ?_⟩
  · rw [tb, Bool.or_eq_true, decide_eq_true_eq] at hq
    rcases hq with hq | rfl
    · exact h3 q hq
    · exact hsb
  · rw [tb, Bool.or_eq_true, decide_eq_true_eq] at hq
    rcases hq with hq | rfl
    · exact h4 X hX q hq
    · exact hX.2.2 a b ha hb hne (h4 X hX a hra) hsb hl
  · rcases hp with hp | ⟨rfl, hp⟩
    · exact up _ (h6 a' b' ha' hb' (Or.inl hp) hne' hr hs hl')
    · rcases Nat.lt_or_ge b' b with q | q
      · exact up _ (h6 a' b' ha' hb' (Or.inr ⟨rfl, q⟩) hne' hr hs hl')
      · have : b' = b := by omega
        subst this
        rw [tb, decide_eq_true rfl, Bool.or_true]
section
variable {h : AH} {k fed pl le fi co : Int32} {G : Nat → Int32} {n : Nat} {S Lm : Int32}
theorem lp_hangB (d : Nat) (Q : Option Value → AH → Prop) (ho : h.2 76 = mob k fed pl le fi co) (hg : h.2 77 = ints 106 G) (hL : ∀ a b, a < b → b < 5 → G (33 + (5 * a + b)) = b2i (bt Lm (5 * a + b))) {s r0 a : Nat} (hs : s < 32) (ha : a < 5) (v3 : Int32) : ∀ (m b r : Nat), b + m = 5 → HI Lm s r0 r a b → (∀ r', HI Lm s r0 r' a 5 → R (d + 1) 162 52 [some (.ref 76), some (.int (nI s)), some (.int (nI r')), some (.int v3), some (.int (nI a)), some (.int (nI 5))] [] h Q) → R (d + 1) 162 19 [some (.ref 76), some (.int (nI s)), some (.int (nI r)), some (.int v3), some (.int (nI a)), some (.int (nI b))] [] h Q := by
  have kC9 := co_MO_hangs
  intro m
  induction m with
  | zero =>
    intro b r hb hI kk
    have : b = 5 := by omega
    subst this
    repeat (refine R_s kC9 rfl rfl ?_)
    refine R_ge kC9 rfl (rfl) (rfl) (by omega) (by omega) (fun hc => ?_) (fun hc => ?_)
    · exact kk r hI
    · omega
  | succ m ih =>
    intro b r hb hI kk
    have hr32 := hI.1
    have back : ∀ (r' : Nat), HI Lm s r0 r' a (b + 1) → R (d + 1) 162 49 [some (.ref 76), some (.int (nI s)), some (.int (nI r)), some (.int v3), some (.int (nI a)), some (.int (nI b))] [.int (nI r')] h Q := by
      intro r' hI'
      repeat (refine R_s kC9 rfl rfl ?_)
      refine R_g kC9 rfl ?_
      refine (show R (d + 1) 162 19 [some (.ref 76), some (.int (nI s)), some (.int (nI r')), some (.int v3), some (.int (nI a)), some (.int (nI b + nI 1))] [] h Q from ?_)
      rw [nI_add]
      exact ih (b + 1) r' (by omega) hI' kk
    have no : ¬ (a ≠ b ∧ r.testBit a = true ∧ s.testBit b = true ∧ lnB Lm a b = true) → R (d + 1) 162 47 [some (.ref 76), some (.int (nI s)), some (.int (nI r)), some (.int v3), some (.int (nI a)), some (.int (nI b))] [.int (nI r)] h Q := by
      intro hn
      iterate 2 (refine R_s kC9 rfl rfl ?_)
      refine (show R (d + 1) 162 49 _ [.int (nI r ||| nI 0)] h Q from ?_)
      rw [nx_or, Nat.or_zero]
      exact back r (hI.skip hn)
    repeat (refine R_s kC9 rfl rfl ?_)
    refine R_ge kC9 rfl (rfl) (rfl) (by omega) (by omega) (fun hc => ?_) (fun hc => ?_)
    · omega
    · repeat (refine R_s kC9 rfl rfl ?_)
      refine R_eq kC9 rfl (rfl) (rfl) (by omega) (by omega) (fun hc => ?_) (fun hc => ?_)
      · exact no (fun q => q.1 hc)
      · have hne := hc
        repeat (refine R_s kC9 rfl rfl ?_)
        refine R_cs kC9 rfl rfl rfl rfl (sp_MO_has d (by omega) (by omega) h) ?_
        refine ZB_eq kC9 rfl (fun hc => ?_) (fun hc => ?_)
        · exact no (fun q => by rw [hc] at q; exact absurd q.2.1 (by decide))
        · have hra := hc
          repeat (refine R_s kC9 rfl rfl ?_)
          refine R_cs kC9 rfl rfl rfl rfl (sp_MO_has d (by omega) (by omega) h) ?_
          refine ZB_eq kC9 rfl (fun hc => ?_) (fun hc => ?_)
          · exact no (fun q => by rw [hc] at q; exact absurd q.2.2.1 (by decide))
          · have hsb := hc
            repeat (refine R_s kC9 rfl rfl ?_)
            refine R_get kC9 rfl (ho) rfl ?_
            repeat (refine R_s kC9 rfl rfl ?_)
            refine R_cv kC9 rfl rfl rfl rfl (ho) (by decide) (sp_MO_lineAt d (by omega) (by omega)) ?_
            have hlx : lnX a b < 25 := by unfold lnX; split <;> omega
            refine R_ild kC9 rfl (hg) (rfl) (by omega) (by decide) ?_
            have e1 : G (33 + lnX a b) = b2i (lnB Lm a b) := by
              unfold lnB lnX
              rcases Nat.lt_or_ge a b with q | q
              · rw [if_pos q]; exact hL a b q (by omega)
              · rw [if_neg (by omega)]; exact hL b a (by omega) ha
            rw [e1, b2i_nI]
            repeat (refine R_s kC9 rfl rfl ?_)
            refine R_ne kC9 rfl rfl rfl (by cases lnB Lm a b <;> decide) (by decide) (fun hd => ?_) (fun hd => ?_)
            · refine no (fun q => ?_)
              rw [q.2.2.2] at hd
              exact hd rfl
            · have hl : lnB Lm a b = true := by cases hq : lnB Lm a b with | true => rfl | false => rw [hq] at hd; cases hd
              repeat (refine R_s kC9 rfl rfl ?_)
              refine R_g kC9 rfl ?_
              iterate 1 (refine R_s kC9 rfl rfl ?_)
              refine (show R (d + 1) 162 49 _ [.int (nI r ||| nI 1 <<< (nI b &&& 31))] h Q from ?_)
              rw [nI_shl (by omega), nx_or, Nat.one_shiftLeft]
              exact back _ (hI.add ha (by omega) hne hra hsb hl)
theorem lp_hangA (d : Nat) (Q : Option Value → AH → Prop) (ho : h.2 76 = mob k fed pl le fi co) (hg : h.2 77 = ints 106 G) (hL : ∀ a b, a < b → b < 5 → G (33 + (5 * a + b)) = b2i (bt Lm (5 * a + b))) {s r0 : Nat} (hs : s < 32) (v3 : Int32) : ∀ (m a r : Nat) (w : Option Value), a + m = 5 → HI Lm s r0 r a 0 → (∀ (r' : Nat) (w4 w5 : Option Value), HI Lm s r0 r' 5 0 → R (d + 1) 162 54 [some (.ref 76), some (.int (nI s)), some (.int (nI r')), some (.int v3), w4, w5] [] h Q) → R (d + 1) 162 14 [some (.ref 76), some (.int (nI s)), some (.int (nI r)), some (.int v3), some (.int (nI a)), w] [] h Q := by
  have kC9 := co_MO_hangs
  intro m
  induction m with
  | zero =>
    intro a r w ha hI kk
    have : a = 5 := by omega
    subst this
    repeat (refine R_s kC9 rfl rfl ?_)
    refine R_ge kC9 rfl (rfl) (rfl) (by omega) (by omega) (fun hc => ?_) (fun hc => ?_)
    · exact kk r _ _ hI
    · omega
  | succ m ih =>
    intro a r w ha hI kk
    repeat (refine R_s kC9 rfl rfl ?_)
    refine R_ge kC9 rfl (rfl) (rfl) (by omega) (by omega) (fun hc => ?_) (fun hc => ?_)
    · omega
    · iterate 2 (refine R_s kC9 rfl rfl ?_)
      refine (show R (d + 1) 162 19 [some (.ref 76), some (.int (nI s)), some (.int (nI r)), some (.int v3), some (.int (nI a)), some (.int (nI 0))] [] h Q from ?_)
      refine lp_hangB d Q ho hg hL hs (by omega) v3 5 0 r (by omega) hI (fun r' hI' => ?_)
      repeat (refine R_s kC9 rfl rfl ?_)
      refine R_g kC9 rfl ?_
      refine (show R (d + 1) 162 14 [some (.ref 76), some (.int (nI s)), some (.int (nI r')), some (.int v3), some (.int (nI a + nI 1)), some (.int (nI 5))] [] h Q from ?_)
      rw [nI_add]
      refine ih (a + 1) r' _ (by omega) ?_ kk
      obtain ⟨h1, h2, h3, h4, h5, h6⟩ := hI'
      exact ⟨h1, h2, h3, h4, h5, fun a' b' ha' hb' hp => h6 a' b' ha' hb' (by omega)⟩
/-- what a pass begins with -/
def HB (Lm : Int32) (s r : Nat) : Prop := r < 32 ∧ (∀ q, (lowN s).testBit q = true → r.testBit q = true) ∧ (∀ q, r.testBit q = true → s.testBit q = true) ∧ ∀ X, goodX Lm s X → ∀ q, r.testBit q = true → X.testBit q = true
theorem tb_le {x y : Nat} (hx : x < 32) (hy : y < 32) (h : ∀ q, x.testBit q = true → y.testBit q = true) : x ≤ y := by
  have key : ∀ x, x < 32 → ∀ y, y < 32 → (∀ q, q < 5 → x.testBit q = true → y.testBit q = true) → x ≤ y := by decide +kernel
  exact key x hx y hy (fun q _ => h q)
theorem lp_hangW (d : Nat) (Q : Option Value → AH → Prop) (ho : h.2 76 = mob k fed pl le fi co) (hg : h.2 77 = ints 106 G) (hL : ∀ a b, a < b → b < 5 → G (33 + (5 * a + b)) = b2i (bt Lm (5 * a + b))) {s : Nat} (hs : s < 32) (kk : ∀ (r : Nat) (w3 w4 w5 : Option Value), HB Lm s r → goodX Lm s r → R (d + 1) 162 55 [some (.ref 76), some (.int (nI s)), some (.int (nI r)), w3, w4, w5] [] h Q) : ∀ (m r b : Nat) (w4 w5 : Option Value), 32 - r ≤ m → b < 32 → HB Lm s r → (r = b → goodX Lm s r) → R (d + 1) 162 7 [some (.ref 76), some (.int (nI s)), some (.int (nI r)), some (.int (nI b)), w4, w5] [] h Q := by
  have kC9 := co_MO_hangs
  intro m
  induction m with
  | zero =>
    intro r b w4 w5 hm hb32 hB hcl
    have := hB.1
    omega
  | succ m ih =>
    intro r b w4 w5 hm hb32 hB hcl
    have hr := hB.1
    repeat (refine R_s kC9 rfl rfl ?_)
    refine R_eq kC9 rfl (rfl) (rfl) (by omega) (by omega) (fun hc => ?_) (fun hc => ?_)
    · exact kk r _ _ _ hB (hcl hc)
    · iterate 4 (refine R_s kC9 rfl rfl ?_)
      refine (show R (d + 1) 162 14 [some (.ref 76), some (.int (nI s)), some (.int (nI r)), some (.int (nI r)), some (.int (nI 0)), w5] [] h Q from ?_)
      obtain ⟨h1, h2, h3, h4⟩ := hB
      refine lp_hangA d Q ho hg hL hs (nI r) 5 0 r _ (by omega) ⟨h1, h2, h3, h4, fun q hq => hq, fun a' b' _ _ hp => by omega⟩ (fun r' w4' w5' hI' => ?_)
      refine R_g kC9 rfl ?_
      obtain ⟨g1, g2, g3, g4, g5, g6⟩ := hI'
      have hle : r ≤ r' := tb_le h1 g1 g5
      by_cases he : r' = r
      · subst he
        have hgood : goodX Lm s r' := ⟨g1, g2, fun a b ha hb hne hra hsb hl => g6 a b ha hb (Or.inl ha) hne hra hsb hl⟩
        repeat (refine R_s kC9 rfl rfl ?_)
        refine R_eq kC9 rfl (rfl) (rfl) (by omega) (by omega) (fun hc => ?_) (fun hc => ?_)
        · exact kk r' _ _ _ ⟨g1, g2, g3, g4⟩ hgood
        · exact absurd rfl hc
      · exact ih r' r w4' w5' (by omega) h1 ⟨g1, g2, g3, g4⟩ (fun q => absurd q he)
theorem sp_MO_hangs (d : Nat) (ho : h.2 76 = mob k fed pl le fi co) (hg : h.2 77 = ints 106 G) (hL : ∀ a b, a < b → b < 5 → G (33 + (5 * a + b)) = b2i (bt Lm (5 * a + b))) {s : Nat} (hs : s < 32) : ∃ r, r < 32 ∧ (r = s ↔ hangP Lm s) ∧ Cl (d + 1) 162 [.ref 76, .int (nI s)] h (some (.int (nI r))) h := by
  have kC9 := co_MO_hangs
  have key : ∃ r, (HB Lm s r ∧ goodX Lm s r) ∧ Cl (d + 1) 162 [.ref 76, .int (nI s)] h (some (.int (nI r))) h := by
    refine Cl_ex (f := fun r => some (.int (nI r))) (g := fun _ => h) kC9 rfl rfl ?_
    iterate 7 (refine R_s kC9 rfl rfl ?_)
    refine (show R (d + 1) 162 7 [some (.ref 76), some (.int (nI s)), some (.int (nI s &&& -nI s)), some (.int (nI 0)), none, none] [] h _ from ?_)
    rw [lowN_eq s hs]
    refine lp_hangW d _ ho hg hL hs (fun r' w3 w4 w5 hB' hg' => ?_) 32 (lowN s) 0 none none (by omega) (by omega) ⟨lowN_lt s hs, fun q hq => hq, fun q hq => lowN_sub s hs q (tb5 (lowN_lt s hs) hq) hq, fun X hX q hq => hX.2.1 q hq⟩ (fun e => ⟨lowN_lt s hs, fun q hq => hq, fun a b _ _ _ ha _ _ => by rw [e] at ha; simp at ha⟩)
    repeat (refine R_s kC9 rfl rfl ?_)
    exact R_ri kC9 rfl ⟨r', ⟨hB', hg'⟩, rfl, rfl⟩
  obtain ⟨r, ⟨hB, hg1⟩, hcl⟩ := key
  refine ⟨r, hB.1, ⟨fun e X hX q hq => hB.2.2.2 X hX q (by rw [e]; exact hq), fun hp => tb_ext hB.1 hs (fun q _ => ?_)⟩, hcl⟩
  have a1 := hB.2.2.1 q
  have a2 := hp r hg1 q
  cases e1 : r.testBit q <;> cases e2 : s.testBit q <;> simp_all
end
