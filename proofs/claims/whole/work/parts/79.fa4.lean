/-! THE CLASS, 10: Family: hangsTogether, build -/
theorem nI_tn (x : Int32) : nI (tn x) = x := tn_inj (tn_nI (tn_lt x))
theorem pc_str : ∀ x, x < 32 → ∀ y, y < 32 → (∀ q, q < 5 → x.testBit q = true → y.testBit q = true) → x ≠ y → pc x < pc y := by decide +kernel
theorem pc_mono : ∀ x, x < 32 → ∀ y, y < 32 → (∀ q, q < 5 → x.testBit q = true → y.testBit q = true) → pc x ≤ pc y := by decide +kernel
theorem pc_pow : ∀ n, n ≤ 5 → ∀ s, s < 2 ^ n → pc s ≤ n := by decide +kernel
theorem pc_low : ∀ s, s < 32 → s ≠ 0 → pc (lowN s) = 1 := by decide +kernel
theorem Lin.ln {n : Nat} {Lm : Int32} (h : Lin n Lm) {a b : Nat} (ha : a < 5) (hb : b < 5) : bt Lm (5 * a + b) = lnB Lm a b := by
  unfold lnB lnX
  split
  · rfl
  · exact h.2 a b ha hb
/-- what a line joins to p within s -/
def lnS (Lm : Int32) (p s : Nat) : Nat := tn ((Lm >>> (nI (5 * p) &&& 31)) &&& nI s)
theorem lnS_lt {Lm : Int32} {p s : Nat} (hs : s < 32) : lnS Lm p s < 32 := by
  unfold lnS
  rw [tn_and, tn_nI (by omega)]
  exact Nat.lt_of_le_of_lt Nat.and_le_right hs
theorem lnS_tb {n : Nat} {Lm : Int32} (hL : Lin n Lm) {p s q : Nat} (hp : p < 5) (hq : q < 5) : (lnS Lm p s).testBit q = (lnB Lm p q && s.testBit q) := by
  unfold lnS
  rw [← tn_bt, b_and, b_sshr (5 * p) (by omega) _ (by omega), if_pos (by omega), hL.ln hp hq, nI_bt q (by omega)]
def HR (Lm : Int32) (s r0 r p : Nat) : Prop := HB Lm s r ∧ (∀ q, r0.testBit q = true → r.testBit q = true) ∧ ∀ a b, a < p → b < 5 → a ≠ b → r0.testBit a = true → s.testBit b = true → lnB Lm a b = true → r.testBit b = true
section
variable {h : AH} {o n : Nat} {S Lm : Int32}
theorem HR.step (hn : n ≤ 5) (hL : Lin n Lm) {s r0 r p : Nat} (hs : s < 32) (hI : HR Lm s r0 r p) (hp : p < n) (hr : r.testBit p = true) : HR Lm s r0 (r ||| lnS Lm p s) (p + 1) := by
  obtain ⟨⟨b1, b2, b3, b4⟩, h2, h3⟩ := hI
  have l1 := lnS_lt (Lm := Lm) (p := p) hs
  have ho : r ||| lnS Lm p s < 32 := Nat.or_lt_two_pow (n := 5) b1 l1
  refine ⟨⟨ho, fun q hq => by rw [Nat.testBit_or, b2 q hq]; rfl, fun q hq => ?_, fun X hX q hq => ?_⟩, fun q hq => by rw [Nat.testBit_or, h2 q hq]; rfl, fun a b ha hb hne h0 hsb hl => ?_⟩
  · have q5 := tb5 ho hq
    rw [Nat.testBit_or, Bool.or_eq_true, lnS_tb hL (by omega) q5, Bool.and_eq_true] at hq
    rcases hq with hq | hq
    · exact b3 q hq
    · exact hq.2
  · have q5 := tb5 ho hq
    rw [Nat.testBit_or, Bool.or_eq_true, lnS_tb hL (by omega) q5, Bool.and_eq_true] at hq
    rcases hq with hq | hq
    · exact b4 X hX q hq
    · by_cases e : p = q
      · subst e; exact b4 X hX p hr
      · exact hX.2.2 p q (by omega) q5 e (b4 X hX p hr) hq.2 hq.1
  · rw [Nat.testBit_or, Bool.or_eq_true]
    by_cases e : a = p
    · subst e
      right
      rw [lnS_tb hL (by omega) hb, hl, hsb]; rfl
    · left; exact h3 a b (by omega) hb hne h0 hsb hl
theorem HR.skip {s r0 r p : Nat} (hI : HR Lm s r0 r p) (hr : r.testBit p = false) : HR Lm s r0 r (p + 1) := by
  obtain ⟨h1, h2, h3⟩ := hI
  refine ⟨h1, h2, fun a b ha hb hne h0 hsb hl => ?_⟩
  by_cases e : a = p
  · subst e
    rw [h2 a h0] at hr
    cases hr
  · exact h3 a b (by omega) hb hne h0 hsb hl
theorem HR.fin {s r0 r : Nat} (hn : n ≤ 5) (hs : s < 2 ^ n) (hB0 : HB Lm s r0) (hI : HR Lm s r0 r n) : HB Lm s r ∧ (goodX Lm s r ∨ pc r0 + 1 ≤ pc r) ∧ (goodX Lm s r0 → goodX Lm s r) := by
  have p5 := pow5 hn
  obtain ⟨h1, h2, h3⟩ := hI
  have cl : r = r0 → goodX Lm s r := by
    rintro rfl
    refine ⟨h1.1, h1.2.1, fun a b ha hb hne hra hsb hl => h3 a b ?_ hb hne hra hsb hl⟩
    have : s.testBit a = true := h1.2.2.1 a hra
    exact Nat.lt_of_not_le (fun q => by
      have : s.testBit a = false := Nat.testBit_lt_two_pow (Nat.lt_of_lt_of_le hs (Nat.pow_le_pow_right (by omega) q))
      simp_all)
  refine ⟨h1, ?_, fun hg => ?_⟩
  · by_cases e : r = r0
    · exact Or.inl (cl e)
    · exact Or.inr (pc_str r0 hB0.1 r h1.1 (fun q _ hq => h2 q hq) (fun x => e x.symm))
  · exact cl (tb_ext h1.1 hB0.1 (fun q _ => by
      have a1 := h2 q
      have a2 := h1.2.2.2 r0 hg q
      cases e1 : r.testBit q <;> cases e2 : r0.testBit q <;> simp_all))
theorem lc_hangI (d : Nat) (Q : Option Value → AH → Prop) (hF : FamC h o n S Lm) (hn : n ≤ 5) (hL : Lin n Lm) {s r0 : Nat} (hs : s < 32) (k : Nat) (kk : ∀ (r : Nat) (w : Option Value), HR Lm s r0 r n → R d 46 36 [some (.ref o), some (.int (nI s)), some (.int (nI r)), some (.int (nI k)), w] [] h Q) : ∀ (m p r : Nat), p + m = n → HR Lm s r0 r p → R d 46 13 [some (.ref o), some (.int (nI s)), some (.int (nI r)), some (.int (nI k)), some (.int (nI p))] [] h Q := by
  have kC9 := co_FA_hangsTogether
  intro m
  induction m with
  | zero =>
    intro p r hp hI
    have : p = n := by omega
    subst this
    repeat (refine R_s kC9 rfl rfl ?_)
    refine R_get kC9 rfl (hF.2) rfl ?_
    refine R_ge kC9 rfl (rfl) (rfl) (by omega) (by omega) (fun hc => ?_) (fun hc => ?_)
    · exact kk r _ hI
    · omega
  | succ m ih =>
    intro p r hp hI
    have r32 := hI.1.1
    have next : ∀ r', HR Lm s r0 r' (p + 1) → R d 46 34 [some (.ref o), some (.int (nI s)), some (.int (nI r')), some (.int (nI k)), some (.int (nI p))] [] h Q := by
      intro r' hI'
      repeat (refine R_s kC9 rfl rfl ?_)
      refine R_g kC9 rfl ?_
      refine (show R d 46 13 [some (.ref o), some (.int (nI s)), some (.int (nI r')), some (.int (nI k)), some (.int (nI p + nI 1))] [] h Q from ?_)
      rw [nI_add]
      exact ih (p + 1) r' (by omega) hI'
    repeat (refine R_s kC9 rfl rfl ?_)
    refine R_get kC9 rfl (hF.2) rfl ?_
    refine R_ge kC9 rfl (rfl) (rfl) (by omega) (by omega) (fun hc => ?_) (fun hc => ?_)
    · omega
    · repeat (refine R_s kC9 rfl rfl ?_)
      refine (show R d 46 22 [some (.ref o), some (.int (nI s)), some (.int (nI r)), some (.int (nI k)), some (.int (nI p))] [.int ((nI r >>> (nI p &&& 31)) &&& nI 1)] h Q from ?_)
      rw [shr_bt (by omega), nI_bt p (by omega)]
      refine ZB_eq kC9 rfl (fun hd => ?_) (fun hd => ?_)
      · exact next r (hI.skip hd)
      · repeat (refine R_s kC9 rfl rfl ?_)
        refine R_get kC9 rfl (hF.2) rfl ?_
        iterate 8 (refine R_s kC9 rfl rfl ?_)
        refine (show R d 46 34 [some (.ref o), some (.int (nI s)), some (.int (nI r ||| ((Lm >>> ((nI 5 * nI p) &&& 31)) &&& nI s))), some (.int (nI k)), some (.int (nI p))] [] h Q from ?_)
        rw [pk_mul, ← nI_tn ((Lm >>> (nI (5 * p) &&& 31)) &&& nI s), nx_or]
        exact next _ (hI.step hn hL hs (by omega) hd)
theorem lc_hangO (d : Nat) (hF : FamC h o n S Lm) (hn : n ≤ 5) (hL : Lin n Lm) {s : Nat} (hs : s < 2 ^ n) : ∀ (m k r : Nat) (w : Option Value), k + m = n → HB Lm s r → (goodX Lm s r ∨ k + 1 ≤ pc r) → R d 46 7 [some (.ref o), some (.int (nI s)), some (.int (nI r)), some (.int (nI k)), w] [] h (fun r2 h2 => r2 = some (.int (b2i (pb (hangP Lm s)))) ∧ h2 = h) := by
  have kC9 := co_FA_hangsTogether
  have p5 := pow5 hn
  intro m
  induction m with
  | zero =>
    intro k r w hk hB hg
    have : k = n := by omega
    subst this
    have hgx : goodX Lm s r := by
      rcases hg with hg | hg
      · exact hg
      · have a1 := pc_mono r hB.1 s (by omega) (fun q _ hq => hB.2.2.1 q hq)
        have a2 := pc_pow k hn s hs
        omega
    have hB1 := hB.1
    have hiff : r = s ↔ hangP Lm s := ⟨fun e X hX q hq => hB.2.2.2 X hX q (by rw [e]; exact hq), fun hp => tb_ext hB.1 (by omega) (fun q _ => by
      have a1 := hB.2.2.1 q
      have a2 := hp r hgx q
      cases e1 : r.testBit q <;> cases e2 : s.testBit q <;> simp_all)⟩
    repeat (refine R_s kC9 rfl rfl ?_)
    refine R_get kC9 rfl (hF.2) rfl ?_
    refine R_ge kC9 rfl (rfl) (rfl) (by omega) (by omega) (fun hc => ?_) (fun hc => ?_)
    · repeat (refine R_s kC9 rfl rfl ?_)
      refine R_ne kC9 rfl rfl rfl (by omega) (by omega) (fun hd => ?_) (fun hd => ?_)
      · repeat (refine R_s kC9 rfl rfl ?_)
        exact R_rz kC9 rfl (Or.inl rfl) ⟨ri_eq (b2i_f (pb_false.mpr (fun q => hd (hiff.mpr q)))), rfl⟩
      · repeat (refine R_s kC9 rfl rfl ?_)
        refine R_g kC9 rfl ?_
        exact R_rz kC9 rfl (Or.inr rfl) ⟨ri_eq (b2i_t (pb_true.mpr (hiff.mp hd))), rfl⟩
    · omega
  | succ m ih =>
    intro k r w hk hB hg
    repeat (refine R_s kC9 rfl rfl ?_)
    refine R_get kC9 rfl (hF.2) rfl ?_
    refine R_ge kC9 rfl (rfl) (rfl) (by omega) (by omega) (fun hc => ?_) (fun hc => ?_)
    · omega
    · iterate 2 (refine R_s kC9 rfl rfl ?_)
      refine lc_hangI d _ hF hn hL (by omega) k (fun r' w2 hI => ?_) n 0 r (by omega) ⟨hB, fun q hq => hq, fun a b ha => by omega⟩
      obtain ⟨f1, f2, f3⟩ := hI.fin hn hs hB
      repeat (refine R_s kC9 rfl rfl ?_)
      refine R_g kC9 rfl ?_
      refine (show R d 46 7 [some (.ref o), some (.int (nI s)), some (.int (nI r')), some (.int (nI k + nI 1)), w2] [] h _ from ?_)
      rw [nI_add]
      refine ih (k + 1) r' w2 (by omega) f1 ?_
      rcases hg with hg | hg
      · exact Or.inl (f3 hg)
      · rcases f2 with f2 | f2
        · exact Or.inl f2
        · exact Or.inr (by omega)
theorem sp_FA_hangsTogether (d : Nat) (hF : FamC h o n S Lm) (hn : n ≤ 5) (hL : Lin n Lm) {s : Nat} (h1 : 1 ≤ s) (hs : s < 2 ^ n) : Cl d 46 [.ref o, .int (nI s)] h (some (.int (b2i (pb (hangP Lm s))))) h := by
  have kC9 := co_FA_hangsTogether
  refine Cl_of kC9 rfl rfl ?_
  have p5 := pow5 hn
  iterate 7 (refine R_s kC9 rfl rfl ?_)
  refine (show R d 46 7 [some (.ref o), some (.int (nI s)), some (.int (nI s &&& -nI s)), some (.int (nI 0)), none] [] h _ from ?_)
  rw [lowN_eq s (by omega)]
  exact lc_hangO d hF hn hL hs n 0 (lowN s) none (by omega) ⟨lowN_lt s (by omega), fun q hq => hq, fun q hq => lowN_sub s (by omega) q (tb5 (lowN_lt s (by omega)) hq) hq, fun X hX q hq => hX.2.1 q hq⟩ (Or.inr (by rw [pc_low s (by omega) (by omega)]; omega))
theorem sp_FA_isRow (d : Nat) (v : Int32) : Cl d 45 [.int v] h (some (.int (b2i (runB v)))) h := by
  have kC9 := co_FA_isRow
  refine Cl_of kC9 rfl rfl ?_
  repeat (refine R_s kC9 rfl rfl ?_)
  refine Zr_ne kC9 rfl (fun hc => ?_) (fun hc => ?_)
  · repeat (refine R_s kC9 rfl rfl ?_)
    exact R_rz kC9 rfl (Or.inl rfl) ⟨ri_eq (b2i_f (decide_eq_false hc)), rfl⟩
  · repeat (refine R_s kC9 rfl rfl ?_)
    refine R_g kC9 rfl ?_
    exact R_rz kC9 rfl (Or.inr rfl) ⟨ri_eq (b2i_t (decide_eq_true hc)), rfl⟩
noncomputable def kndB (n : Nat) (Lm : Int32) (k s : Nat) : Bool := match k with
  | 0 => false
  | 1 => runB (nI s)
  | 2 => runB (nI s) || runB (nI ((2 ^ n - 1) ^^^ s))
  | 3 => true
  | 4 => s.testBit 0
  | 5 => s.testBit 0 && runB (nI s)
  | _ => pb (hangP Lm s)
theorem sw16 {ts : List Nat} {k : Nat} (hk : k < 7) (ht : ts.length = 7) : (if (nI k).toInt < 1 ∨ 6 < (nI k).toInt then ts[0]? else ts[((nI k).toInt - 1).toNat + 1]?) = some (ts.getD k 0) := by
  rw [nI_toInt (by omega)]
  by_cases h6 : k = 0
  · subst h6
    rw [if_pos (by omega), List.getD_eq_getElem?_getD, List.getElem?_eq_getElem (by omega)]
    rfl
  · rw [if_neg (by omega)]
    have e : (((k : Nat) : Int) - 1).toNat + 1 = k := by omega
    rw [e, List.getD_eq_getElem?_getD, List.getElem?_eq_getElem (by omega)]
    rfl
theorem chain_run : ∀ s, s < 32 → 1 ≤ s → ((nI s &&& (nI s + nI 1) = 0) ↔ (s.testBit 0 && runB (nI s)) = true) := by decide +kernel
theorem sp_FA_isOfKind (d : Nat) (hF : FamC h o n S Lm) (hn : n ≤ 5) (hL : Lin n Lm) {k s : Nat} (hk : k < 7) (h1 : 1 ≤ s) (hs : s < 2 ^ n) : Cl (d + 1) 44 [.ref o, .int (nI k), .int (nI s)] h (some (.int (b2i (kndB n Lm k s)))) h := by
  have kC9 := co_FA_isOfKind
  refine Cl_of kC9 rfl rfl ?_
  have p5 := pow5 hn
  repeat (refine R_s kC9 rfl rfl ?_)
  refine R_sw kC9 rfl (sw16 hk rfl) ?_
  match k, hk with
  | 0, _ =>
    repeat (refine R_s kC9 rfl rfl ?_)
    exact R_rz kC9 rfl (Or.inl rfl) ⟨ri_eq (b2i_f (rfl)), rfl⟩
  | 1, _ =>
    refine (show R (d + 1) 44 2 [some (.ref o), some (.int (nI 1)), some (.int (nI s))] [] h _ from ?_)
    repeat (refine R_s kC9 rfl rfl ?_)
    refine R_cs kC9 rfl rfl rfl rfl (sp_FA_isRow d (nI s)) ?_
    exact R_rb kC9 rfl ⟨rfl, rfl⟩
  | 2, _ =>
    refine (show R (d + 1) 44 5 [some (.ref o), some (.int (nI 2)), some (.int (nI s))] [] h _ from ?_)
    repeat (refine R_s kC9 rfl rfl ?_)
    refine R_cs kC9 rfl rfl rfl rfl (sp_FA_isRow d (nI s)) ?_
    refine ZB_ne kC9 rfl (fun hd => ?_) (fun hd => ?_)
    · repeat (refine R_s kC9 rfl rfl ?_)
      refine R_g kC9 rfl ?_
      exact R_rz kC9 rfl (Or.inr rfl) ⟨ri_eq (b2i_t (by unfold kndB; rw [hd]; rfl)), rfl⟩
    · repeat (refine R_s kC9 rfl rfl ?_)
      refine R_cv kC9 rfl rfl rfl rfl hF.2 hF.1 (sp_FA_whole d hF hn) ?_
      repeat (refine R_s kC9 rfl rfl ?_)
      refine (show R (d + 1) 44 12 [some (.ref o), some (.int (nI 2)), some (.int (nI s))] [.int (nI (2 ^ n - 1) ^^^ nI s)] h _ from ?_)
      rw [nx_xor]
      refine R_cs kC9 rfl rfl rfl rfl (sp_FA_isRow d _) ?_
      refine ZB_eq kC9 rfl (fun he => ?_) (fun he => ?_)
      · repeat (refine R_s kC9 rfl rfl ?_)
        exact R_rz kC9 rfl (Or.inl rfl) ⟨ri_eq (b2i_f (by unfold kndB; rw [hd, he]; rfl)), rfl⟩
      · repeat (refine R_s kC9 rfl rfl ?_)
        refine R_g kC9 rfl ?_
        exact R_rz kC9 rfl (Or.inr rfl) ⟨ri_eq (b2i_t (by unfold kndB; rw [hd, he]; rfl)), rfl⟩
  | 3, _ =>
    refine (show R (d + 1) 44 18 [some (.ref o), some (.int (nI 3)), some (.int (nI s))] [] h _ from ?_)
    repeat (refine R_s kC9 rfl rfl ?_)
    exact R_rz kC9 rfl (Or.inr rfl) ⟨ri_eq (b2i_t (rfl)), rfl⟩
  | 4, _ =>
    refine (show R (d + 1) 44 20 [some (.ref o), some (.int (nI 4)), some (.int (nI s))] [] h _ from ?_)
    repeat (refine R_s kC9 rfl rfl ?_)
    refine (show R (d + 1) 44 23 [some (.ref o), some (.int (nI 4)), some (.int (nI s))] [.int (nI s &&& nI 1)] h _ from ?_)
    have e : nI s &&& nI 1 = b2i (s.testBit 0) := (by decide +kernel : ∀ s, s < 32 → nI s &&& nI 1 = b2i (s.testBit 0)) s (by omega)
    rw [e]
    refine ZB_eq kC9 rfl (fun he => ?_) (fun he => ?_)
    · repeat (refine R_s kC9 rfl rfl ?_)
      exact R_rz kC9 rfl (Or.inl rfl) ⟨ri_eq (b2i_f (he)), rfl⟩
    · repeat (refine R_s kC9 rfl rfl ?_)
      refine R_g kC9 rfl ?_
      exact R_rz kC9 rfl (Or.inr rfl) ⟨ri_eq (b2i_t (he)), rfl⟩
  | 5, _ =>
    refine (show R (d + 1) 44 28 [some (.ref o), some (.int (nI 5)), some (.int (nI s))] [] h _ from ?_)
    repeat (refine R_s kC9 rfl rfl ?_)
    refine Zr_ne kC9 rfl (fun he => ?_) (fun he => ?_)
    · repeat (refine R_s kC9 rfl rfl ?_)
      exact R_rz kC9 rfl (Or.inl rfl) ⟨ri_eq (b2i_f (by cases q : kndB n Lm 5 s with | false => rfl | true => exact absurd ((chain_run s (by omega) h1).mpr q) he)), rfl⟩
    · repeat (refine R_s kC9 rfl rfl ?_)
      refine R_g kC9 rfl ?_
      exact R_rz kC9 rfl (Or.inr rfl) ⟨ri_eq (b2i_t ((chain_run s (by omega) h1).mp he)), rfl⟩
  | 6, _ =>
    refine (show R (d + 1) 44 38 [some (.ref o), some (.int (nI 6)), some (.int (nI s))] [] h _ from ?_)
    repeat (refine R_s kC9 rfl rfl ?_)
    refine R_cv kC9 rfl rfl rfl rfl hF.2 hF.1 (sp_FA_hangsTogether d hF hn hL h1 hs) ?_
    exact R_rb kC9 rfl ⟨rfl, rfl⟩
  | k + 7, hk => omega
theorem kindF_knd {k s : Nat} : kindF n Lm k s = (decide (pc s = 1) || decide (s = 2 ^ n - 1) || kndB n Lm k s) := by
  unfold kindF kndB
  rfl
theorem lc_build (d : Nat) (ho : 3 ≤ o) (hn : n ≤ 5) (hL : Lin n Lm) {k : Nat} (hk : k < 7) : ∀ (m s : Nat), s + m = 2 ^ n → 1 ≤ s → R (d + 2) 42 5 [some (.ref o), some (.int (nI k)), some (.int (nI s))] [] (faH h o n (maskOf (fun t => decide (t < s) && makeF n Lm k t)) Lm) (fun r2 h2 => r2 = none ∧ h2 = faH h o n (makeS n Lm k) Lm) := by
  have kC9 := co_FA_build
  have p5 := pow5 hn
  have p1 : 1 ≤ 2 ^ n := Nat.one_le_two_pow
  have hFc : ∀ X : Int32, FamC (faH h o n X Lm) o n X Lm := fun X => ⟨ho, upH_at _ _ _⟩
  intro m
  induction m with
  | zero =>
    intro s hs hs1
    repeat (refine R_s kC9 rfl rfl ?_)
    refine R_cv kC9 rfl rfl rfl rfl (hFc _).2 ho (sp_FA_whole (d + 1) (hFc _) hn) ?_
    refine R_gt kC9 rfl rfl rfl (by omega) (by omega) (fun hd => ?_) (fun hd => by omega)
    refine R_rv kC9 rfl ⟨rfl, ?_⟩
    have : maskOf (fun t => decide (t < s) && makeF n Lm k t) = makeS n Lm k := b_ext (fun i hi => by
      unfold makeS
      rw [maskOf_bt _ hi, maskOf_bt _ hi]
      by_cases e : i < s
      · rw [decide_eq_true e, Bool.true_and]
      · rw [decide_eq_false e]
        unfold makeF
        rw [decide_eq_false (by omega)]; rfl)
    rw [this]
  | succ m ih =>
    intro s hs hs1
    have hm : makeF n Lm k s = kindF n Lm k s := by
      unfold makeF
      rw [decide_eq_true (by omega), Bool.true_and]
    have put : kindF n Lm k s = true → R (d + 2) 42 21 [some (.ref o), some (.int (nI k)), some (.int (nI s))] [] (faH h o n (maskOf (fun t => decide (t < s) && makeF n Lm k t)) Lm) (fun r2 h2 => r2 = none ∧ h2 = faH h o n (makeS n Lm k) Lm) := by
      intro hq
      repeat (refine R_s kC9 rfl rfl ?_)
      refine R_get kC9 rfl ((hFc _).2) rfl ?_
      repeat (refine R_s kC9 rfl rfl ?_)
      refine R_put kC9 rfl (hFc _).2 ho (Nat.le_of_ble_eq_true rfl) rfl ?_
      rw [upH_upH]
      repeat (refine R_s kC9 rfl rfl ?_)
      refine R_g kC9 rfl ?_
      refine (show R (d + 2) 42 5 [some (.ref o), some (.int (nI k)), some (.int (nI s + nI 1))] [] (faH h o n (maskOf (fun t => decide (t < s) && makeF n Lm k t) ||| (nI 1 <<< (nI s &&& 31))) Lm) _ from ?_)
      rw [nI_add]
      have e : maskOf (fun t => decide (t < s) && makeF n Lm k t) ||| (nI 1 <<< (nI s &&& 31)) = maskOf (fun t => decide (t < s + 1) && makeF n Lm k t) := b_ext (fun i hi => by
        rw [b_or, maskOf_bt _ hi, maskOf_bt _ hi, one_bt (by omega) hi]
        by_cases e : i = s
        · subst e; rw [hm, hq]; simp
        · rw [decide_eq_false e, Bool.or_false, show decide (i < s) = decide (i < s + 1) by congr 1; apply propext; omega])
      rw [e]
      exact ih (s + 1) (by omega) (by omega)
    repeat (refine R_s kC9 rfl rfl ?_)
    refine R_cv kC9 rfl rfl rfl rfl (hFc _).2 ho (sp_FA_whole (d + 1) (hFc _) hn) ?_
    refine R_gt kC9 rfl rfl rfl (by omega) (by omega) (fun hd => by omega) (fun hd => ?_)
    repeat (refine R_s kC9 rfl rfl ?_)
    refine R_cs kC9 rfl rfl rfl rfl (sp_FA_isSingle (d + 1) hs1 (by omega)) ?_
    refine ZB_ne kC9 rfl (fun he => ?_) (fun he => ?_)
    · exact put (by rw [kindF_knd, he]; rfl)
    · repeat (refine R_s kC9 rfl rfl ?_)
      refine R_cv kC9 rfl rfl rfl rfl (hFc _).2 ho (sp_FA_whole (d + 1) (hFc _) hn) ?_
      refine R_eq kC9 rfl rfl rfl (by omega) (by omega) (fun hf => ?_) (fun hf => ?_)
      · exact put (by rw [kindF_knd, he, decide_eq_true hf]; rfl)
      · repeat (refine R_s kC9 rfl rfl ?_)
        refine R_cv kC9 rfl rfl rfl rfl (hFc _).2 ho (sp_FA_isOfKind d (hFc _) hn hL hk hs1 (by omega)) ?_
        refine ZB_eq kC9 rfl (fun hg => ?_) (fun hg => ?_)
        · repeat (refine R_s kC9 rfl rfl ?_)
          refine R_g kC9 rfl ?_
          refine (show R (d + 2) 42 5 [some (.ref o), some (.int (nI k)), some (.int (nI s + nI 1))] [] _ _ from ?_)
          rw [nI_add]
          have e : maskOf (fun t => decide (t < s) && makeF n Lm k t) = maskOf (fun t => decide (t < s + 1) && makeF n Lm k t) := b_ext (fun i hi => by
            rw [maskOf_bt _ hi, maskOf_bt _ hi]
            by_cases e : i = s
            · subst e
              rw [hm, kindF_knd, he, decide_eq_false hf, hg]; simp
            · rw [show decide (i < s) = decide (i < s + 1) by congr 1; apply propext; omega])
          rw [e]
          exact ih (s + 1) (by omega) (by omega)
        · exact put (by rw [kindF_knd, hg, Bool.or_true])
theorem sp_FA_build (d : Nat) (hF : FamC h o n S Lm) (hn : n ≤ 5) (hL : Lin n Lm) {k : Nat} (hk : k < 7) : Cl (d + 2) 42 [.ref o, .int (nI k)] h none (faH h o n (makeS n Lm k) Lm) := by
  have kC9 := co_FA_build
  refine Cl_of kC9 rfl rfl ?_
  repeat (refine R_s kC9 rfl rfl ?_)
  refine R_put kC9 rfl hF.2 hF.1 (Nat.le_of_ble_eq_true rfl) rfl ?_
  iterate 2 (refine R_s kC9 rfl rfl ?_)
  have key := lc_build (h := h) (o := o) d hF.1 hn hL hk (2 ^ n - 1) 1 (by have : 1 ≤ 2 ^ n := Nat.one_le_two_pow; omega) (Nat.le_refl 1)
  have e : maskOf (fun t => decide (t < 1) && makeF n Lm k t) = 0 := b_ext (fun i hi => by
    rw [maskOf_bt _ hi, b_0]
    by_cases e : i < 1
    · unfold makeF
      rw [decide_eq_false (show ¬ (1 ≤ i ∧ i < 2 ^ n) by omega)]; simp
    · rw [decide_eq_false e]; rfl)
  rw [e] at key
  exact key
theorem Lin0 (n : Nat) : Lin n 0 := ⟨fun q _ h => (by rw [b_0] at h; cases h), fun a b _ _ => by rw [b_0, b_0]⟩
theorem sp_FA_restart (d : Nat) (hF : FamC h o n S Lm) {m : Nat} (hm : m ≤ 5) : Cl (d + 3) 30 [.ref o, .int (nI m)] h none (faH h o m (makeS m 0 0) 0) := by
  have kC9 := co_FA_restart
  refine Cl_of kC9 rfl rfl ?_
  repeat (refine R_s kC9 rfl rfl ?_)
  refine R_put kC9 rfl hF.2 hF.1 (Nat.le_of_ble_eq_true rfl) rfl ?_
  repeat (refine R_s kC9 rfl rfl ?_)
  refine R_put kC9 rfl (upH_at _ _ _) hF.1 (Nat.le_of_ble_eq_true rfl) rfl ?_
  rw [upH_upH]
  refine (show R (d + 3) 30 6 _ [] (faH h o m S 0) _ from ?_)
  repeat (refine R_s kC9 rfl rfl ?_)
  have hF2 : FamC (faH h o m S 0) o m S 0 := ⟨hF.1, upH_at _ _ _⟩
  refine R_cv kC9 rfl rfl rfl rfl hF2.2 hF.1 (sp_FA_build d hF2 hm (Lin0 m) (k := 0) (by omega)) ?_
  rw [show faH (faH h o m S 0) o m (makeS m 0 0) 0 = faH h o m (makeS m 0 0) 0 from upH_upH _ _ _ _]
  exact R_rv kC9 rfl ⟨rfl, rfl⟩
end
