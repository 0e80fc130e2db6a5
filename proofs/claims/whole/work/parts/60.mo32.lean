/-! THE REFERENCE, 31: orders, corner, odds, mean -/
noncomputable def orN (n : Nat) (S : Int32) (c : Nat) : Nat := orF n S c n (2 ^ n - 1) []
theorem smF_le {f : Nat → Nat} {b : Nat} (hf : ∀ p, f p ≤ b) : ∀ p, smF f p ≤ b * p
  | 0 => by simp [smF]
  | p + 1 => by
    have := smF_le hf p
    have := hf p
    rw [smF_succ, Nat.mul_succ]
    omega
theorem orF_le {n : Nat} (hn : n ≤ 5) (S : Int32) (c : Nat) : ∀ (m l : Nat) (od : List Nat), orF n S c m l od ≤ 5 ^ m
  | 0, l, od => by rw [orF_zero]; cases decide (leadsN n S od = some c) <;> decide
  | m + 1, l, od => by
    rw [orF_succ]
    have h1 := smF_le (f := fun p => if l.testBit p = true then orF n S c m (clrB l p) (od ++ [p]) else 0) (b := 5 ^ m) (fun p => by
      split
      · exact orF_le hn S c m _ _
      · exact Nat.zero_le _) n
    have h2 : 5 ^ m * n ≤ 5 ^ m * 5 := Nat.mul_le_mul_left _ hn
    rw [Nat.pow_succ]
    omega
theorem orN_le {n : Nat} (hn : n ≤ 5) (S : Int32) (c : Nat) : orN n S c ≤ 3125 := by
  have h1 := orF_le hn S c n (2 ^ n - 1) []
  have h2 : 5 ^ n ≤ 5 ^ 5 := Nat.pow_le_pow_right (by omega) hn
  have h3 : (5 : Nat) ^ 5 = 3125 := by decide
  unfold orN
  omega
def fcN : Nat → Nat
  | 0 => 1
  | k + 1 => fcN k * (k + 1)
theorem fcN_succ (k : Nat) : fcN (k + 1) = fcN k * (k + 1) := rfl
theorem fcN_le : ∀ k, k ≤ 5 → 1 ≤ fcN k ∧ fcN k ≤ 120 := by decide +kernel
noncomputable def cornerR (n : Nat) (S v w : Int32) : Int32 := if itI (cornS n S).length v = true then (if w = 0 then nI (cnt (risB n S v.toNatClampNeg) (n - 1)) else if w = 1 then nI (orN n S v.toNatClampNeg) else if w = 2 then nI (worN n S v.toNatClampNeg) else -1) else -1
noncomputable def oddsR (n : Nat) (S v w : Int32) : Int64 := if (itI (cornS n S).length v && decide (0 ≤ w.toInt ∧ w.toInt ≤ 1)) = true then (nI ((if w = 0 then orN n S v.toNatClampNeg else fcN n) / Nat.gcd (fcN n) (orN n S v.toNatClampNeg))).toInt64 else -9223372036854775808
noncomputable def sumN (n : Nat) (S : Int32) (p : Nat) : Nat := smF (fun c => crow n S c p) (cornS n S).length
noncomputable def meanR (n : Nat) (S v w : Int32) : Int64 := if (ptB n v && decide (0 ≤ w.toInt ∧ w.toInt ≤ 1)) = true then (nI ((if w = 0 then sumN n S v.toNatClampNeg else (cornS n S).length) / Nat.gcd (cornS n S).length (sumN n S v.toNatClampNeg))).toInt64 else -9223372036854775808
section
variable {h : AH} {k fed pl le fi : Int32} {G : Nat → Int32} {n : Nat} {S : Int32} {z : ZT}
theorem odH_self {Of Cn : Nat → Int32} (a : h.2 90 = ints 5 Of) (b : h.2 91 = ints 5 Cn) : odH h Of Cn = h := by
  unfold odH
  rw [upH_self a, upH_self b]
theorem odH_frm (Of Cn : Nat → Int32) : frm2 h (odH h Of Cn) := ⟨Eq.refl _, fun q hq => by
  simp only [upH]
  rw [if_neg (by omega), if_neg (by omega)]⟩
theorem rows4.od {h : AH} (a : rows4 h) (Of Cn : Nat → Int32) : rows4 (odH h Of Cn) := ⟨a.1, a.2.1, ⟨Of, Eq.refl _⟩, ⟨Cn, Eq.refl _⟩⟩
theorem sp_MO_orders (d : Nat) (hm : mCel h k fed pl le fi G z) (hn : n ≤ 5) (h0 : G 0 = nI n) (hS : ∀ s, s < 32 → G (1 + s) = b2i (bt S s)) (hz : caZ n S z) (hb : c120 n S) (hr : rows4 h) {c : Nat} (hc : c < (cornS n S).length) : ∃ y : (Nat → Int32) × (Nat → Int32), True ∧ Cl (d + 8) 224 [.ref 76, .int (nI c)] h (some (.int (nI (orN n S c)))) (odH h y.1 y.2) := by
  obtain ⟨_, _, ⟨Of, hO⟩, ⟨Cn, hC⟩⟩ := hr
  have hp := pow5 hn
  have hp1 : 1 ≤ 2 ^ n := Nat.one_le_two_pow
  obtain ⟨y, _, hcl⟩ := sp_MO_ordersFrom (d + (5 - n)) hm hn h0 hS hz hb hc n (2 ^ n - 1) [] Of Cn (by simp) (by omega) (fun i p hp => by simp at hp)
  rw [show d + (5 - n) + n + 2 = d + 7 by omega, odH_self hO hC] at hcl
  refine ⟨y, trivial, ?_⟩
  have ho := hm.1
  have hg := hm.2.1
  have kC9 := co_MO_orders
  refine Cl_of kC9 rfl rfl ?_
  repeat (refine R_s kC9 rfl rfl ?_)
  refine R_cv kC9 rfl rfl rfl rfl (ho) (by decide) (sp_MO_whole (d + 7) ho hg hn h0) ?_
  repeat (refine R_s kC9 rfl rfl ?_)
  refine R_cv kC9 rfl rfl rfl rfl ho (by decide) hcl ?_
  exact R_ri kC9 rfl ⟨rfl, rfl⟩
theorem sw3 {v : Int32} : v = 0 ∨ v = 1 ∨ v = 2 ∨ ((v.toInt < 0 ∨ 2 < v.toInt) ∧ v ≠ 0 ∧ v ≠ 1 ∧ v ≠ 2) := by
  by_cases hr : 0 ≤ v.toInt ∧ v.toInt ≤ 2
  · obtain ⟨j, _, j2, _, rfl⟩ := rng_nI (a := 0) (b := 2) hr
    have : j = 0 ∨ j = 1 ∨ j = 2 := by omega
    rcases this with rfl | rfl | rfl
    · exact Or.inl rfl
    · exact Or.inr (Or.inl rfl)
    · exact Or.inr (Or.inr (Or.inl rfl))
  · refine Or.inr (Or.inr (Or.inr ⟨by omega, ?_, ?_, ?_⟩)) <;> (rintro rfl; exact hr (by decide))
theorem sp_MO_corner (d : Nat) (hm : mCel h k fed pl le fi G z) (hn : n ≤ 5) (hn2 : 2 ≤ n) (h0 : G 0 = nI n) (hS : ∀ s, s < 32 → G (1 + s) = b2i (bt S s)) (hb : c120 n S) (hI : caI z) (hfl : flOK n S) (hr : rows4 h) (v w : Int32) : ∃ z' h', caI z' ∧ mCel h' k fed pl le fi G z' ∧ frm2 h h' ∧ rows4 h' ∧ Cl (d + 9) 218 [.ref 76, .int v, .int w] h (some (.int (cornerR n S v w))) h' := by
  have kC9 := co_MO_corner
  obtain ⟨z1, h1, hz1, hm1, hf1, hcl1⟩ := sp_MO_isCorner d hm hn hn2 h0 hS hb hI v
  have ho := hm.1
  have ho1 := hm1.1
  have hr1 := hr.frm hf1
  have hl : (cornS n S).length ≤ 120 := by rw [cornS_len]; exact hb
  unfold cornerR
  cases hv : itI (cornS n S).length v with
  | false =>
    refine ⟨z1, h1, hz1.i hn, hm1, hf1.to2, hr1, ?_⟩
    rw [if_neg (by decide)]
    refine Cl_of kC9 rfl rfl ?_
    repeat (refine R_s kC9 rfl rfl ?_)
    refine R_cv kC9 rfl rfl rfl rfl ho (by decide) hcl1 ?_
    refine ZB_ne kC9 rfl (fun q => by rw [hv] at q; cases q) (fun _ => ?_)
    repeat (refine R_s kC9 rfl rfl ?_)
    exact R_ri kC9 rfl ⟨rfl, rfl⟩
  | true =>
    obtain ⟨c, c1, c2, rfl⟩ := itI_of hv
    rw [if_pos rfl, nI_clamp c2]
    have head : ∀ (Q : Option Value → AH → Prop), R (d + 9) 218 7 [some (.ref 76), some (.int (nI c)), some (.int w)] [.int w] h1 Q → R (d + 9) 218 0 [some (.ref 76), some (.int (nI c)), some (.int w)] [] h Q := by
      intro Q kk
      repeat (refine R_s kC9 rfl rfl ?_)
      refine R_cv kC9 rfl rfl rfl rfl ho (by decide) hcl1 ?_
      refine ZB_ne kC9 rfl (fun _ => ?_) (fun q => by rw [hv] at q; cases q)
      iterate 1 (refine R_s kC9 rfl rfl ?_)
      exact kk
    rcases sw3 (v := w) with e | e | e | e
    · subst e
      refine ⟨z1, h1, hz1.i hn, hm1, hf1.to2, hr1, Cl_of kC9 rfl rfl (head _ ?_)⟩
      refine R_sw kC9 rfl (t := 8) rfl ?_
      repeat (refine R_s kC9 rfl rfl ?_)
      refine R_cv kC9 rfl rfl rfl rfl ho1 (by decide) (sp_MO_rises (d + 7) hm1 hn hn2 h0 hz1 hb hfl c1) ?_
      exact R_ri kC9 rfl ⟨rfl, rfl⟩
    · subst e
      obtain ⟨y, _, hcl⟩ := sp_MO_orders d hm1 hn h0 hS hz1 hb hr1 c1
      refine ⟨z1, odH h1 y.1 y.2, hz1.i hn, hm1.od y.1 y.2, hf1.to2.trans (odH_frm y.1 y.2), hr1.od y.1 y.2, Cl_of kC9 rfl rfl (head _ ?_)⟩
      refine R_sw kC9 rfl (t := 12) rfl ?_
      repeat (refine R_s kC9 rfl rfl ?_)
      refine R_cv kC9 rfl rfl rfl rfl ho1 (by decide) hcl ?_
      exact R_ri kC9 rfl ⟨rfl, rfl⟩
    · subst e
      refine ⟨z1, h1, hz1.i hn, hm1, hf1.to2, hr1, Cl_of kC9 rfl rfl (head _ ?_)⟩
      refine R_sw kC9 rfl (t := 16) rfl ?_
      repeat (refine R_s kC9 rfl rfl ?_)
      refine R_cv kC9 rfl rfl rfl rfl ho1 (by decide) (sp_MO_worth (d + 8) hm1 hn h0 hz1 hb c1) ?_
      exact R_ri kC9 rfl ⟨rfl, rfl⟩
    · refine ⟨z1, h1, hz1.i hn, hm1, hf1.to2, hr1, Cl_of kC9 rfl rfl (head _ ?_)⟩
      rw [if_neg e.2.1, if_neg e.2.2.1, if_neg e.2.2.2]
      refine R_sw kC9 rfl (t := 20) (by rw [if_pos (by omega)]; rfl) ?_
      repeat (refine R_s kC9 rfl rfl ?_)
      exact R_ri kC9 rfl ⟨rfl, rfl⟩
theorem lp_oddsF (d : Nat) (Q : Option Value → AH → Prop) (hm : mCel h k fed pl le fi G z) (hn : n ≤ 5) (hn2 : 2 ≤ n) (h0 : G 0 = nI n) (v w : Int32) (kk : R d 230 28 [some (.ref 76), some (.int v), some (.int w), some (.int (nI (fcN n))), some (.int (nI (n + 1)))] [] h Q) : ∀ (m j : Nat), j + m = n → 1 ≤ j → R d 230 16 [some (.ref 76), some (.int v), some (.int w), some (.int (nI (fcN j))), some (.int (nI (j + 1)))] [] h Q := by
  have kC9 := co_MO_odds
  have ho := hm.1
  have hg := hm.2.1
  intro m
  induction m with
  | zero =>
    intro j hj h1
    have : j = n := by omega
    subst this
    repeat (refine R_s kC9 rfl rfl ?_)
    refine R_get kC9 rfl (ho) rfl ?_
    repeat (refine R_s kC9 rfl rfl ?_)
    refine R_ild kC9 rfl (hg) (rfl) (by decide) (by decide) ?_
    rw [h0]
    refine R_gt kC9 rfl rfl rfl (by omega) (by omega) (fun _ => kk) (fun q => by omega)
  | succ m ih =>
    intro j hj h1
    repeat (refine R_s kC9 rfl rfl ?_)
    refine R_get kC9 rfl (ho) rfl ?_
    repeat (refine R_s kC9 rfl rfl ?_)
    refine R_ild kC9 rfl (hg) (rfl) (by decide) (by decide) ?_
    rw [h0]
    refine R_gt kC9 rfl rfl rfl (by omega) (by omega) (fun q => by omega) (fun _ => ?_)
    repeat (refine R_s kC9 rfl rfl ?_)
    refine R_g kC9 rfl ?_
    refine (show R d 230 16 [some (.ref 76), some (.int v), some (.int w), some (.int (nI (fcN j) * nI (j + 1))), some (.int (nI (j + 1) + nI 1))] [] h Q from ?_)
    rw [pk_mul, nI_add, ← fcN_succ]
    exact ih (j + 1) (by omega) (by omega)
theorem sp_MO_odds (d : Nat) (hm : mCel h k fed pl le fi G z) (hn : n ≤ 5) (hn2 : 2 ≤ n) (h0 : G 0 = nI n) (hS : ∀ s, s < 32 → G (1 + s) = b2i (bt S s)) (hb : c120 n S) (hI : caI z) (hr : rows4 h) (v w : Int32) : ∃ z' h', caI z' ∧ mCel h' k fed pl le fi G z' ∧ frm2 h h' ∧ rows4 h' ∧ Cl (d + 25) 230 [.ref 76, .int v, .int w] h (some (.long (oddsR n S v w))) h' := by
  have kC9 := co_MO_odds
  obtain ⟨z1, h1, hz1, hm1, hf1, hcl1⟩ := sp_MO_isCorner (d + 16) hm hn hn2 h0 hS hb hI v
  have ho := hm.1
  have ho1 := hm1.1
  have hr1 := hr.frm hf1
  have hl : (cornS n S).length ≤ 120 := by rw [cornS_len]; exact hb
  have hw01 : ∀ {q : Bool}, decide (0 ≤ w.toInt ∧ w.toInt ≤ 1) = q → decide ((0 : Int64).toInt ≤ w.toInt64.toInt ∧ w.toInt64.toInt ≤ (1 : Int64).toInt) = q := fun e => (in_dec (v := w) (x := 0) (y := 1) (by decide) (by decide)).trans e
  have no : (itI (cornS n S).length v && decide (0 ≤ w.toInt ∧ w.toInt ≤ 1)) = false → Cl (d + 25) 230 [.ref 76, .int v, .int w] h (some (.long (oddsR n S v w))) h1 := by
    intro hno
    unfold oddsR
    rw [hno, if_neg (by decide)]
    refine Cl_of kC9 rfl rfl ?_
    repeat (refine R_s kC9 rfl rfl ?_)
    refine R_cv kC9 rfl rfl rfl rfl ho (by decide) hcl1 ?_
    have out : R (d + 25) 230 10 [some (.ref 76), some (.int v), some (.int w), none, none] [] h1 (fun r2 h2 => r2 = some (.long (-9223372036854775808)) ∧ h2 = h1) := by
      repeat (refine R_s kC9 rfl rfl ?_)
      exact R_rl kC9 rfl ⟨rfl, rfl⟩
    refine ZB_eq kC9 rfl (fun _ => out) (fun q => ?_)
    repeat (refine R_s kC9 rfl rfl ?_)
    refine R_cs kC9 rfl rfl rfl rfl (sp_MO_isIn (d + 24) _ _ _ h1) ?_
    refine ZB_ne kC9 rfl (fun q2 => ?_) (fun _ => out)
    rw [q, Bool.true_and] at hno
    rw [hw01 hno] at q2
    cases q2
  cases hall : (itI (cornS n S).length v && decide (0 ≤ w.toInt ∧ w.toInt ≤ 1)) with
  | false => exact ⟨z1, h1, hz1.i hn, hm1, hf1.to2, hr1, no hall⟩
  | true =>
    have hall2 := hall
    rw [Bool.and_eq_true] at hall2
    obtain ⟨c, c1, c2, rfl⟩ := itI_of hall2.1
    obtain ⟨y, _, hcl⟩ := sp_MO_orders (d + 16) hm1 hn h0 hS hz1 hb hr1 c1
    have hm2 := hm1.od y.1 y.2
    refine ⟨z1, odH h1 y.1 y.2, hz1.i hn, hm2, hf1.to2.trans (odH_frm y.1 y.2), hr1.od y.1 y.2, ?_⟩
    unfold oddsR
    rw [hall, if_pos rfl, nI_clamp c2]
    obtain ⟨f1, f2⟩ := fcN_le n hn
    have o1 := orN_le hn S c
    have g1 : 0 < Nat.gcd (fcN n) (orN n S c) := Nat.gcd_pos_of_pos_left _ (by omega)
    have g2 : Nat.gcd (fcN n) (orN n S c) ≤ fcN n := Nat.gcd_le_left _ (by omega)
    refine Cl_of kC9 rfl rfl ?_
    repeat (refine R_s kC9 rfl rfl ?_)
    refine R_cv kC9 rfl rfl rfl rfl ho (by decide) hcl1 ?_
    refine ZB_eq kC9 rfl (fun q => by rw [hall2.1] at q; cases q) (fun _ => ?_)
    repeat (refine R_s kC9 rfl rfl ?_)
    refine R_cs kC9 rfl rfl rfl rfl (sp_MO_isIn (d + 24) _ _ _ h1) ?_
    refine ZB_ne kC9 rfl (fun _ => ?_) (fun q => by rw [hw01 hall2.2] at q; cases q)
    iterate 4 (refine R_s kC9 rfl rfl ?_)
    refine lp_oddsF (d + 25) _ hm1 hn hn2 h0 (nI c) w ?_ (n - 1) 1 (by omega) (by omega)
    repeat (refine R_s kC9 rfl rfl ?_)
    refine R_cv kC9 rfl rfl rfl rfl ho1 (by decide) hcl ?_
    have fin : ∀ a : Nat, a < 2 ^ 31 → a = (if w = 0 then orN n S c else fcN n) → R (d + 25) 230 37 [some (.ref 76), some (.int (nI c)), some (.int w), some (.int (nI (fcN n))), some (.int (nI (orN n S c)))] [.int (nI a)] (odH h1 y.1 y.2) (fun r2 h2 => r2 = some (.long (nI ((if w = 0 then orN n S c else fcN n) / Nat.gcd (fcN n) (orN n S c))).toInt64) ∧ h2 = odH h1 y.1 y.2) := by
      intro a ha e
      subst e
      repeat (refine R_s kC9 rfl rfl ?_)
      refine R_cs kC9 rfl rfl rfl rfl (sp_MO_common d (h := odH h1 y.1 y.2) 12 (fcN n) (orN n S c) (by omega) (by omega) (by omega)) ?_
      refine R_div kC9 rfl (fun q => ?_) ?_
      · have := (nI_eq (a := Nat.gcd (fcN n) (orN n S c)) (b := 0) (by omega) (by omega)).mp q
        omega
      rw [pk_div ha g1 (by omega)]
      repeat (refine R_s kC9 rfl rfl ?_)
      exact R_rl kC9 rfl ⟨rfl, rfl⟩
    repeat (refine R_s kC9 rfl rfl ?_)
    refine Zr_ne kC9 rfl (fun q => ?_) (fun q => ?_)
    · iterate 1 (refine R_s kC9 rfl rfl ?_)
      exact fin _ (by omega) (by rw [if_neg q])
    · iterate 1 (refine R_s kC9 rfl rfl ?_)
      refine R_g kC9 rfl ?_
      exact fin _ (by omega) (by rw [if_pos q])
theorem lp_mean (d : Nat) (Q : Option Value → AH → Prop) (hm : mCel h k fed pl le fi G z) (hz : caZ n S z) (hb : c120 n S) {p : Nat} (hp : p < 5) (w : Int32) (kk : R d 231 35 [some (.ref 76), some (.int (nI p)), some (.int w), some (.int (nI (sumN n S p))), some (.int (nI (cornS n S).length))] [] h Q) : ∀ (m c : Nat), c + m = (cornS n S).length → R d 231 18 [some (.ref 76), some (.int (nI p)), some (.int w), some (.int (nI (smF (fun c => crow n S c p) c))), some (.int (nI c))] [] h Q := by
  have kC9 := co_MO_mean
  have ho := hm.1
  rw [hz.2.2.1] at ho
  have hst := hm.2.2.2.2.2.2.1
  have hl : (cornS n S).length ≤ 120 := by rw [cornS_len]; exact hb
  intro m
  induction m with
  | zero =>
    intro c hc
    have : c = (cornS n S).length := by omega
    subst this
    repeat (refine R_s kC9 rfl rfl ?_)
    refine R_get kC9 rfl (ho) rfl ?_
    refine R_ge kC9 rfl (rfl) (rfl) (by omega) (by omega) (fun hc => ?_) (fun hc => ?_)
    · exact kk
    · omega
  | succ m ih =>
    intro c hc
    repeat (refine R_s kC9 rfl rfl ?_)
    refine R_get kC9 rfl (ho) rfl ?_
    refine R_ge kC9 rfl (rfl) (rfl) (by omega) (by omega) (fun hc => ?_) (fun hc => ?_)
    · omega
    · repeat (refine R_s kC9 rfl rfl ?_)
      refine R_get kC9 rfl (ho) rfl ?_
      repeat (refine R_s kC9 rfl rfl ?_)
      refine R_ild kC9 rfl hst (k := 5 * c + p) (show nI 5 * nI c + nI p = _ by rw [pk_mul, nI_add]) (by omega) (by decide) ?_
      rw [hz.st (by omega) hp]
      repeat (refine R_s kC9 rfl rfl ?_)
      refine R_g kC9 rfl ?_
      refine (show R d 231 18 [some (.ref 76), some (.int (nI p)), some (.int w), some (.int (nI (smF (fun c => crow n S c p) c) + nI (crow n S c p))), some (.int (nI c + nI 1))] [] h Q from ?_)
      rw [nI_add, nI_add]
      exact ih (c + 1) (by omega)
theorem sp_MO_mean (d : Nat) (hm : mCel h k fed pl le fi G z) (hn : n ≤ 5) (hn2 : 2 ≤ n) (h0 : G 0 = nI n) (hS : ∀ s, s < 32 → G (1 + s) = b2i (bt S s)) (hb : c120 n S) (hI : caI z) (hc1 : 1 ≤ (cornS n S).length) (v w : Int32) : ∃ z' h', caI z' ∧ mCel h' k fed pl le fi G z' ∧ frm h h' ∧ Cl (d + 25) 231 [.ref 76, .int v, .int w] h (some (.long (meanR n S v w))) h' := by
  have kC9 := co_MO_mean
  have ho := hm.1
  have hg := hm.2.1
  have hl : (cornS n S).length ≤ 120 := by rw [cornS_len]; exact hb
  have hw01 : ∀ {q : Bool}, decide (0 ≤ w.toInt ∧ w.toInt ≤ 1) = q → decide ((0 : Int64).toInt ≤ w.toInt64.toInt ∧ w.toInt64.toInt ≤ (1 : Int64).toInt) = q := fun e => (in_dec (v := w) (x := 0) (y := 1) (by decide) (by decide)).trans e
  cases hall : (ptB n v && decide (0 ≤ w.toInt ∧ w.toInt ≤ 1)) with
  | false =>
    refine ⟨z, h, hI, hm, frm.rfl, ?_⟩
    unfold meanR
    rw [hall, if_neg (by decide)]
    refine Cl_of kC9 rfl rfl ?_
    repeat (refine R_s kC9 rfl rfl ?_)
    refine R_cv kC9 rfl rfl rfl rfl (ho) (by decide) (sp_MO_isPoint (d + 23) ho hg hn (by omega) h0 v) ?_
    have out : R (d + 25) 231 10 [some (.ref 76), some (.int v), some (.int w), none, none] [] h (fun r2 h2 => r2 = some (.long (-9223372036854775808)) ∧ h2 = h) := by
      repeat (refine R_s kC9 rfl rfl ?_)
      exact R_rl kC9 rfl ⟨rfl, rfl⟩
    refine ZB_eq kC9 rfl (fun _ => out) (fun q => ?_)
    repeat (refine R_s kC9 rfl rfl ?_)
    refine R_cs kC9 rfl rfl rfl rfl (sp_MO_isIn (d + 24) _ _ _ h) ?_
    refine ZB_ne kC9 rfl (fun q2 => ?_) (fun _ => out)
    rw [q, Bool.true_and] at hall
    rw [hw01 hall] at q2
    cases q2
  | true =>
    obtain ⟨z1, h1, hz1, hm1, hf1, hcl1⟩ := st_finds (d + 17) hm hn hn2 h0 hS hb hI
    refine ⟨z1, h1, hz1.i hn, hm1, hf1, ?_⟩
    have ho1 := hm1.1
    rw [hz1.2.2.1] at ho1
    have hall2 := hall
    rw [Bool.and_eq_true] at hall2
    obtain ⟨p, p1, p2, rfl⟩ := ptB_of hall2.1
    have sle : sumN n S p ≤ 32 * (cornS n S).length := smF_le (fun c => rowF_le _ _ _ _) _
    have g1 : 0 < Nat.gcd (cornS n S).length (sumN n S p) := Nat.gcd_pos_of_pos_left _ (by omega)
    have g2 : Nat.gcd (cornS n S).length (sumN n S p) ≤ (cornS n S).length := Nat.gcd_le_left _ (by omega)
    unfold meanR
    rw [hall, if_pos rfl, nI_clamp p2]
    refine Cl_of kC9 rfl rfl ?_
    repeat (refine R_s kC9 rfl rfl ?_)
    refine R_cv kC9 rfl rfl rfl rfl (ho) (by decide) (sp_MO_isPoint (d + 23) ho hg hn (by omega) h0 (nI p)) ?_
    refine ZB_eq kC9 rfl (fun q => by rw [hall2.1] at q; cases q) (fun _ => ?_)
    repeat (refine R_s kC9 rfl rfl ?_)
    refine R_cs kC9 rfl rfl rfl rfl (sp_MO_isIn (d + 24) _ _ _ h) ?_
    refine ZB_ne kC9 rfl (fun _ => ?_) (fun q => by rw [hw01 hall2.2] at q; cases q)
    repeat (refine R_s kC9 rfl rfl ?_)
    refine R_cv kC9 rfl rfl rfl rfl ho (by decide) hcl1 ?_
    iterate 4 (refine R_s kC9 rfl rfl ?_)
    refine lp_mean (d + 25) _ hm1 hz1 hb (p := p) (by omega) w ?_ (cornS n S).length 0 (by omega)
    have fin : ∀ a : Nat, a < 2 ^ 31 → a = (if w = 0 then sumN n S p else (cornS n S).length) → R (d + 25) 231 41 [some (.ref 76), some (.int (nI p)), some (.int w), some (.int (nI (sumN n S p))), some (.int (nI (cornS n S).length))] [.int (nI a)] h1 (fun r2 h2 => r2 = some (.long (nI ((if w = 0 then sumN n S p else (cornS n S).length) / Nat.gcd (cornS n S).length (sumN n S p))).toInt64) ∧ h2 = h1) := by
      intro a ha e
      subst e
      repeat (refine R_s kC9 rfl rfl ?_)
      refine R_get kC9 rfl (ho1) rfl ?_
      repeat (refine R_s kC9 rfl rfl ?_)
      refine R_cs kC9 rfl rfl rfl rfl (sp_MO_common d (h := h1) 12 (cornS n S).length (sumN n S p) (by omega) (by omega) (by omega)) ?_
      refine R_div kC9 rfl (fun q => ?_) ?_
      · have := (nI_eq (a := Nat.gcd (cornS n S).length (sumN n S p)) (b := 0) (by omega) (by omega)).mp q
        omega
      rw [pk_div ha g1 (by omega)]
      repeat (refine R_s kC9 rfl rfl ?_)
      exact R_rl kC9 rfl ⟨rfl, rfl⟩
    repeat (refine R_s kC9 rfl rfl ?_)
    refine Zr_ne kC9 rfl (fun q => ?_) (fun q => ?_)
    · repeat (refine R_s kC9 rfl rfl ?_)
      refine R_get kC9 rfl (ho1) rfl ?_
      exact fin _ (by omega) (by rw [if_neg q])
    · iterate 1 (refine R_s kC9 rfl rfl ?_)
      refine R_g kC9 rfl ?_
      exact fin _ (by omega) (by rw [if_pos q])
end
