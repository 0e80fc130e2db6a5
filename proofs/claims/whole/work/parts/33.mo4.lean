/-! THE REFERENCE, 4: families are made -/
noncomputable def kindF (n : Nat) (Lm : Int32) (k s : Nat) : Bool := decide (pc s = 1) || decide (s = 2 ^ n - 1) || (match k with
  | 0 => false
  | 1 => runB (nI s)
  | 2 => runB (nI s) || runB (nI ((2 ^ n - 1) ^^^ s))
  | 3 => true
  | 4 => s.testBit 0
  | 5 => s.testBit 0 && runB (nI s)
  | _ => pb (hangP Lm s))
/-- the sets of a kind -/
noncomputable def makeF (n : Nat) (Lm : Int32) (k s : Nat) : Bool := decide (1 ≤ s ∧ s < 2 ^ n) && kindF n Lm k s
noncomputable def makeS (n : Nat) (Lm : Int32) (k : Nat) : Int32 := maskOf (makeF n Lm k)
theorem pow5 {n : Nat} (hn : n ≤ 5) : 2 ^ n ≤ 32 := (Nat.pow_le_pow_right (by omega) hn : 2 ^ n ≤ 2 ^ 5)
section
variable {h : AH} {k fed pl le fi co : Int32} {G : Nat → Int32} {n : Nat} {S Lm : Int32}
theorem kindF_1 {k s : Nat} (h : pc s = 1) : kindF n Lm k s = true := by unfold kindF; rw [decide_eq_true h]; rfl
theorem kindF_w {k s : Nat} (h : s = 2 ^ n - 1) : kindF n Lm k s = true := by unfold kindF; rw [decide_eq_true h, Bool.or_true]; rfl
theorem kindF_else {k s : Nat} (h1 : ¬ pc s = 1) (h2 : ¬ s = 2 ^ n - 1) : kindF n Lm k s = (match k with
  | 0 => false
  | 1 => runB (nI s)
  | 2 => runB (nI s) || runB (nI ((2 ^ n - 1) ^^^ s))
  | 3 => true
  | 4 => s.testBit 0
  | 5 => s.testBit 0 && runB (nI s)
  | _ => pb (hangP Lm s)) := by unfold kindF; rw [decide_eq_false h1, decide_eq_false h2]; rfl
theorem sw6 {ts : List Nat} {k : Nat} (hk : k < 7) (ht : ts.length = 7) : (if (nI k).toInt < 0 ∨ 5 < (nI k).toInt then ts[0]? else ts[((nI k).toInt - 0).toNat + 1]?) = some (ts.getD (if k = 6 then 0 else k + 1) 0) := by
  rw [nI_toInt (by omega)]
  by_cases h6 : k = 6
  · subst h6
    rw [if_pos (by omega), if_pos rfl, List.getD_eq_getElem?_getD, List.getElem?_eq_getElem (by omega)]
    rfl
  · rw [if_neg (by omega), if_neg h6]
    have e : (((k : Nat) : Int) - 0).toNat + 1 = k + 1 := by omega
    rw [e, List.getD_eq_getElem?_getD, List.getElem?_eq_getElem (by omega)]
    rfl
theorem sp_MO_isOf (d : Nat) (ho : h.2 76 = mob k fed pl le fi co) (hg : h.2 77 = ints 106 G) (hn : n ≤ 5) (h0 : G 0 = nI n) (hL : ∀ a b, a < b → b < 5 → G (33 + (5 * a + b)) = b2i (bt Lm (5 * a + b))) {c s : Nat} (hc7 : c < 7) (hs1 : 1 ≤ s) (hs2 : s < 2 ^ n) : Cl (d + 2) 164 [.ref 76, .int (nI c), .int (nI s)] h (some (.int (b2i (kindF n Lm c s)))) h := by
  have hp := pow5 hn
  have hs : s < 32 := by omega
  have hpc : pc s ≤ 5 := by unfold pc; omega
  have kC9 := co_MO_isOf
  refine Cl_of kC9 rfl rfl ?_
  repeat (refine R_s kC9 rfl rfl ?_)
  refine R_cs kC9 rfl rfl rfl rfl (sp_MO_bits (d + 1) hs h) ?_
  repeat (refine R_s kC9 rfl rfl ?_)
  refine R_eq kC9 rfl (rfl) (rfl) (by omega) (by omega) (fun hc => ?_) (fun hc => ?_)
  · repeat (refine R_s kC9 rfl rfl ?_)
    exact R_rz kC9 rfl (Or.inr rfl) ⟨ri_eq (b2i_t (kindF_1 hc)), rfl⟩
  · have h1 := hc
    repeat (refine R_s kC9 rfl rfl ?_)
    refine R_cv kC9 rfl rfl rfl rfl (ho) (by decide) (sp_MO_whole (d + 1) ho hg hn h0) ?_
    refine R_ne kC9 rfl (rfl) (rfl) (by omega) (by omega) (fun hc => ?_) (fun hc => ?_)
    · have h2 := hc
      have hel := kindF_else (n := n) (Lm := Lm) (k := c) h1 h2
      repeat (refine R_s kC9 rfl rfl ?_)
      refine R_sw kC9 rfl (sw6 hc7 rfl) ?_
      rcases (show c = 0 ∨ c = 1 ∨ c = 2 ∨ c = 3 ∨ c = 4 ∨ c = 5 ∨ c = 6 by omega) with rfl | rfl | rfl | rfl | rfl | rfl | rfl
      · refine (show R (d + 2) 164 12 _ [] h _ from ?_)
        repeat (refine R_s kC9 rfl rfl ?_)
        exact R_rz kC9 rfl (Or.inl rfl) ⟨ri_eq (b2i_f (hel)), rfl⟩
      · refine (show R (d + 2) 164 14 _ [] h _ from ?_)
        replace hel : kindF n Lm 1 s = runB (nI s) := hel
        repeat (refine R_s kC9 rfl rfl ?_)
        refine R_cs kC9 rfl rfl rfl rfl (sp_MO_isRun (d + 1) _) ?_
        exact R_rb kC9 rfl ⟨ri_eq (by rw [hel]), rfl⟩
      · refine (show R (d + 2) 164 17 _ [] h _ from ?_)
        replace hel : kindF n Lm 2 s = (runB (nI s) || runB (nI ((2 ^ n - 1) ^^^ s))) := hel
        repeat (refine R_s kC9 rfl rfl ?_)
        refine R_cs kC9 rfl rfl rfl rfl (sp_MO_isRun (d + 1) _) ?_
        refine ZB_ne kC9 rfl (fun hc => ?_) (fun hc => ?_)
        · repeat (refine R_s kC9 rfl rfl ?_)
          refine R_g kC9 rfl ?_
          exact R_rz kC9 rfl (Or.inr rfl) ⟨ri_eq (b2i_t (by rw [hel]; rw [hc]; rfl)), rfl⟩
        · have h3 := hc
          repeat (refine R_s kC9 rfl rfl ?_)
          refine R_cv kC9 rfl rfl rfl rfl (ho) (by decide) (sp_MO_whole (d + 1) ho hg hn h0) ?_
          repeat (refine R_s kC9 rfl rfl ?_)
          refine R_cs kC9 rfl rfl rfl rfl (sp_MO_isRun (d + 1) _) ?_
          rw [nx_xor]
          refine ZB_eq kC9 rfl (fun hc => ?_) (fun hc => ?_)
          · repeat (refine R_s kC9 rfl rfl ?_)
            exact R_rz kC9 rfl (Or.inl rfl) ⟨ri_eq (b2i_f (by rw [hel]; rw [h3, hc]; rfl)), rfl⟩
          · repeat (refine R_s kC9 rfl rfl ?_)
            refine R_g kC9 rfl ?_
            exact R_rz kC9 rfl (Or.inr rfl) ⟨ri_eq (b2i_t (by rw [hel]; rw [h3, hc]; rfl)), rfl⟩
      · refine (show R (d + 2) 164 30 _ [] h _ from ?_)
        repeat (refine R_s kC9 rfl rfl ?_)
        exact R_rz kC9 rfl (Or.inr rfl) ⟨ri_eq (b2i_t (hel)), rfl⟩
      · refine (show R (d + 2) 164 32 _ [] h _ from ?_)
        replace hel : kindF n Lm 4 s = s.testBit 0 := hel
        repeat (refine R_s kC9 rfl rfl ?_)
        refine R_cs kC9 rfl rfl rfl rfl (sp_MO_has (d + 1) (by omega) (by omega) h) ?_
        exact R_rb kC9 rfl ⟨ri_eq (by rw [hel]), rfl⟩
      · refine (show R (d + 2) 164 36 _ [] h _ from ?_)
        replace hel : kindF n Lm 5 s = (s.testBit 0 && runB (nI s)) := hel
        repeat (refine R_s kC9 rfl rfl ?_)
        refine R_cs kC9 rfl rfl rfl rfl (sp_MO_has (d + 1) (by omega) (by omega) h) ?_
        refine ZB_eq kC9 rfl (fun hc => ?_) (fun hc => ?_)
        · repeat (refine R_s kC9 rfl rfl ?_)
          exact R_rz kC9 rfl (Or.inl rfl) ⟨ri_eq (b2i_f (by rw [hel]; rw [hc]; rfl)), rfl⟩
        · have h3 := hc
          repeat (refine R_s kC9 rfl rfl ?_)
          refine R_cs kC9 rfl rfl rfl rfl (sp_MO_isRun (d + 1) _) ?_
          refine ZB_eq kC9 rfl (fun hc => ?_) (fun hc => ?_)
          · repeat (refine R_s kC9 rfl rfl ?_)
            exact R_rz kC9 rfl (Or.inl rfl) ⟨ri_eq (b2i_f (by rw [hel]; rw [h3, hc]; rfl)), rfl⟩
          · repeat (refine R_s kC9 rfl rfl ?_)
            refine R_g kC9 rfl ?_
            exact R_rz kC9 rfl (Or.inr rfl) ⟨ri_eq (b2i_t (by rw [hel]; rw [h3, hc]; rfl)), rfl⟩
      · refine (show R (d + 2) 164 47 _ [] h _ from ?_)
        replace hel : kindF n Lm 6 s = pb (hangP Lm s) := hel
        obtain ⟨r, hr, hiff, hcl⟩ := sp_MO_hangs d ho hg hL hs
        repeat (refine R_s kC9 rfl rfl ?_)
        refine R_cv kC9 rfl rfl rfl rfl (ho) (by decide) (hcl) ?_
        repeat (refine R_s kC9 rfl rfl ?_)
        refine R_ne kC9 rfl (rfl) (rfl) (by omega) (by omega) (fun hc => ?_) (fun hc => ?_)
        · repeat (refine R_s kC9 rfl rfl ?_)
          exact R_rz kC9 rfl (Or.inl rfl) ⟨ri_eq (b2i_f (by rw [hel]; exact pb_false.mpr (fun q => hc (hiff.mpr q)))), rfl⟩
        · repeat (refine R_s kC9 rfl rfl ?_)
          refine R_g kC9 rfl ?_
          exact R_rz kC9 rfl (Or.inr rfl) ⟨ri_eq (b2i_t (by rw [hel]; exact pb_true.mpr (hiff.mp hc))), rfl⟩
    · repeat (refine R_s kC9 rfl rfl ?_)
      exact R_rz kC9 rfl (Or.inr rfl) ⟨ri_eq (b2i_t (kindF_w hc)), rfl⟩
/-- the array behind 'makes' -/
theorem lp_makes (d : Nat) (Q : Option Value → AH → Prop) (ho : h.2 76 = mob k fed pl le fi co) (hn : n ≤ 5) {c : Nat} (hc7 : c < 7) (kk : ∀ G', G' 0 = nI n → (∀ s, s < 32 → G' (1 + s) = b2i (makeF n Lm c s)) → (∀ q, 33 ≤ q → G' q = G q) → R (d + 3) 165 25 [some (.ref 76), some (.int (nI c)), some (.int (nI 32))] [] (upH h 77 (ints 106 G')) Q) (hL : ∀ a b, a < b → b < 5 → G (33 + (5 * a + b)) = b2i (bt Lm (5 * a + b))) : ∀ (m s : Nat) (G' : Nat → Int32), s + m = 32 → G' 0 = nI n → (∀ t, t < s → G' (1 + t) = b2i (makeF n Lm c t)) → (∀ q, 33 ≤ q → G' q = G q) → R (d + 3) 165 2 [some (.ref 76), some (.int (nI c)), some (.int (nI s))] [] (upH h 77 (ints 106 G')) Q := by
  have kC9 := co_MO_makes
  intro m
  induction m with
  | zero =>
    intro s G' hs h0 hS hq
    have : s = 32 := by omega
    subst this
    repeat (refine R_s kC9 rfl rfl ?_)
    refine R_ge kC9 rfl (rfl) (rfl) (by omega) (by omega) (fun hc => ?_) (fun hc => ?_)
    · exact kk G' h0 hS hq
    · omega
  | succ m ih =>
    intro s G' hs h0 hS hq
    have ho' : (upH h 77 (ints 106 G')).2 76 = mob k fed pl le fi co := ho
    have hg' : (upH h 77 (ints 106 G')).2 77 = ints 106 G' := rfl
    have hL' : ∀ a b, a < b → b < 5 → G' (33 + (5 * a + b)) = b2i (bt Lm (5 * a + b)) := fun a b hab hb => by rw [hq _ (by omega)]; exact hL a b hab hb
    have back : ∀ v : Bool, v = makeF n Lm c s → R (d + 3) 165 22 [some (.ref 76), some (.int (nI c)), some (.int (nI s))] [.int (b2i v), .int (nI 1 + nI s), .ref 77] (upH h 77 (ints 106 G')) Q := by
      intro v hv
      refine R_ist kC9 rfl (hg') (by decide) (nI_add 1 s) (by omega) (by decide) ?_
      rw [upH_upH]
      repeat (refine R_s kC9 rfl rfl ?_)
      refine R_g kC9 rfl ?_
      refine (show R (d + 3) 165 2 [some (.ref 76), some (.int (nI c)), some (.int (nI s + nI 1))] [] (upH h 77 (ints 106 (upd G' (1 + s) (b2i v)))) Q from ?_)
      rw [nI_add]
      refine ih (s + 1) _ (by omega) (by rw [pk_un (by omega)]; exact h0) (fun t ht => ?_) (fun q hq2 => by rw [pk_un (by omega)]; exact hq q hq2)
      by_cases e : t = s
      · subst e
        rw [pk_us, hv]
      · rw [pk_un (by omega)]
        exact hS t (by omega)
    have hone : ∀ b : Bool, b = true → (nI 1 : Int32) = b2i b := fun b hb => b2i_t hb
    repeat (refine R_s kC9 rfl rfl ?_)
    refine R_ge kC9 rfl (rfl) (rfl) (by omega) (by omega) (fun hc => ?_) (fun hc => ?_)
    · omega
    · repeat (refine R_s kC9 rfl rfl ?_)
      refine R_get kC9 rfl (ho') rfl ?_
      repeat (refine R_s kC9 rfl rfl ?_)
      refine R_cv kC9 rfl rfl rfl rfl (ho') (by decide) (sp_MO_isSet (d + 1) ho' hg' hn h0 (nI s)) ?_
      rw [setB_nI (by omega)]
      refine ZB_eq kC9 rfl (fun hc => ?_) (fun hc => ?_)
      · iterate 1 (refine R_s kC9 rfl rfl ?_)
        refine (show R (d + 3) 165 22 _ [.int (b2i false), .int (nI 1 + nI s), .ref 77] _ Q from back false ?_)
        unfold makeF
        rw [hc]
        rfl
      · rw [decide_eq_true_eq] at hc
        repeat (refine R_s kC9 rfl rfl ?_)
        refine R_cv kC9 rfl rfl rfl rfl (ho') (by decide) (sp_MO_isOf d ho' hg' hn h0 hL' hc7 hc.1 hc.2) ?_
        have hin := hc
        refine ZB_eq kC9 rfl (fun hc => ?_) (fun hc => ?_)
        · iterate 1 (refine R_s kC9 rfl rfl ?_)
          refine (show R (d + 3) 165 22 _ [.int (b2i false), .int (nI 1 + nI s), .ref 77] _ Q from back false ?_)
          unfold makeF
          rw [hc, Bool.and_false]
        · repeat (refine R_s kC9 rfl rfl ?_)
          refine R_g kC9 rfl ?_
          refine (show R (d + 3) 165 22 _ [.int (b2i true), .int (nI 1 + nI s), .ref 77] _ Q from back true ?_)
          unfold makeF
          rw [hc, decide_eq_true hin]
          rfl
/-- makes: n, lines and the rest stay; the sets are those of the kind; nothing is chosen -/
theorem sp_MO_makes (d : Nat) (ho : h.2 76 = mob k fed pl le fi co) (hg : h.2 77 = ints 106 G) (hn : n ≤ 5) (h0 : G 0 = nI n) (hL : ∀ a b, a < b → b < 5 → G (33 + (5 * a + b)) = b2i (bt Lm (5 * a + b))) {c : Nat} (hc7 : c < 7) : ∃ G', (G' 0 = nI n ∧ (∀ s, s < 32 → G' (1 + s) = b2i (bt (makeS n Lm c) s)) ∧ G' 58 = nI 0 ∧ ∀ q, 33 ≤ q → q ≠ 58 → G' q = G q) ∧ Cl (d + 3) 165 [.ref 76, .int (nI c)] h none (upH h 77 (ints 106 G')) := by
  have kC9 := co_MO_makes
  refine Cl_ex (f := fun _ => none) (g := fun G' => upH h 77 (ints 106 G')) kC9 rfl rfl ?_
  iterate 2 (refine R_s kC9 rfl rfl ?_)
  refine (show R (d + 3) 165 2 [some (.ref 76), some (.int (nI c)), some (.int (nI 0))] [] h _ from ?_)
  have hh : h = upH h 77 (ints 106 G) := (upH_self hg).symm
  rw [hh]
  refine lp_makes (k := k) (fed := fed) (pl := pl) (le := le) (fi := fi) (co := co) (G := G) d _ ho hn hc7 (fun G' a0 aS aq => ?_) hL 32 0 G (by omega) h0 (fun t ht => absurd ht (by omega)) (fun q _ => rfl)
  rw [← hh]
  repeat (refine R_s kC9 rfl rfl ?_)
  refine R_get kC9 rfl (ho) rfl ?_
  repeat (refine R_s kC9 rfl rfl ?_)
  refine R_ist kC9 rfl (h := upH h 77 (ints 106 G')) rfl (by decide) (k := 58) rfl (by decide) (by decide) ?_
  rw [upH_upH]
  refine R_rv kC9 rfl ⟨upd G' 58 (nI 0), ⟨?_, fun s hs => ?_, pk_us, fun q hq hne => ?_⟩, rfl, rfl⟩
  · rw [pk_un (by omega)]; exact a0
  · rw [pk_un (by omega), aS s hs]
    unfold makeS
    rw [maskOf_bt _ hs]
  · rw [pk_un hne]; exact aq q hq
end
