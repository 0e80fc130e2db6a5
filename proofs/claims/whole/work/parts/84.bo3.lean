/-! THE CLASS, 14: Body: countNests -/
def pkN (r : Nat → Nat) : Nat → Nat
  | 0 => 0
  | p + 1 => 32 * pkN r p + r p
/-- what a body holds of its family's corners -/
def bA0 (n : Nat) (S : Int32) (b : BoS) : Prop := b.ar = 0 ∧ b.fa = -1 ∧ ∀ i x, (corL n (allN n S))[i]? = some x → b.Nr i = chM x
noncomputable def bA1 (n : Nat) (S : Int32) (b : BoS) : Prop := b.ar = 1 ∧ (b.fa = -1 ∨ b.fa = nI (farN n S)) ∧ (∀ i x, (cornS n S)[i]? = some x → b.Nr i = chM x ∧ b.Pl i = nI (pkN (rowF n S x) n) ∧ b.Wo i = nI (worN n S i)) ∧ ∀ c j, c < (cornS n S).length → j < n - 1 → b.Fl (4 * c + j) = nI (nrN n S c j)
def bCt (n : Nat) (S : Int32) (b : BoS) : Prop := b.bs = S ∧ (∀ k, k < 5 → b.Nc k = nI (lenN (allN n S) k)) ∧ b.co = (cornS n S).length
def bOK (n : Nat) (S : Int32) (b : BoS) : Prop := bCt n S b ∧ (bA0 n S b ∨ bA1 n S b)
def bIv (b : BoS) : Prop := b.bs = 0 ∨ ∃ n S, Fam n S ∧ bOK n S b
theorem Fam.n_eq {n m : Nat} {S : Int32} (h1 : Fam n S) (h2 : Fam m S) : n = m := by
  have key : ∀ {n m : Nat}, Fam n S → Fam m S → n ≤ m := by
    intro n m h1 h2
    have p1 := pow5 h1.2.1
    have p0 : 1 ≤ 2 ^ n := Nat.one_le_two_pow
    have h3 := (h2.2.2.1 (2 ^ n - 1) (by omega) h1.2.2.2.2.1).2
    rcases Nat.lt_or_ge m n with q | q
    · have : 2 ^ (m + 1) ≤ 2 ^ n := Nat.pow_le_pow_right (by omega) q
      have p2 : 1 ≤ 2 ^ m := Nat.one_le_two_pow
      rw [Nat.pow_succ] at this
      omega
    · exact q
  have a := key h1 h2
  have c := key h2 h1
  omega
theorem Fam.ne0 {n : Nat} {S : Int32} (h : Fam n S) : S ≠ 0 := fun e => by
  have := h.2.2.2.2.1
  rw [e, b_0] at this
  cases this
section
variable {h h' : AH} {o fam n : Nat} {S Lm : Int32} {b : BoS}
theorem lc_clear (d : Nat) (Q : Option Value → AH → Prop) (kk : ∀ (h2 : AH) (F : NF), frI o (o + 13) h h2 → BX h2 o fam n S Lm (b.sNc F) → (∀ k, k < 5 → F k = nI 0) → R d 64 35 [some (.ref o), some (.int (nI 5))] [] h2 Q) : ∀ (m k : Nat) (h2 : AH) (F : NF), k + m = 5 → frI o (o + 13) h h2 → BX h2 o fam n S Lm (b.sNc F) → (∀ q, q < k → F q = nI 0) → R d 64 23 [some (.ref o), some (.int (nI k))] [] h2 Q := by
  have kC9 := co_BO_countNests
  intro m
  induction m with
  | zero =>
    intro k h2 F hk hf hB hF
    have : k = 5 := by omega
    subst this
    repeat (refine R_s kC9 rfl rfl ?_)
    refine R_get kC9 rfl (hB.ob) rfl ?_
    refine R_alen kC9 rfl hB.nc (by omega) ?_
    refine R_ge kC9 rfl (rfl) (rfl) (by omega) (by omega) (fun hc => ?_) (fun hc => ?_)
    · exact kk h2 F hf hB hF
    · omega
  | succ m ih =>
    intro k h2 F hk hf hB hF
    have o3 := hB.o3
    repeat (refine R_s kC9 rfl rfl ?_)
    refine R_get kC9 rfl (hB.ob) rfl ?_
    refine R_alen kC9 rfl hB.nc (by omega) ?_
    refine R_ge kC9 rfl (rfl) (rfl) (by omega) (by omega) (fun hc => ?_) (fun hc => ?_)
    · omega
    · repeat (refine R_s kC9 rfl rfl ?_)
      refine R_get kC9 rfl (hB.ob) rfl ?_
      repeat (refine R_s kC9 rfl rfl ?_)
      refine R_ist kC9 rfl hB.nc (by omega) (k := k) rfl (by omega) (by omega) ?_
      repeat (refine R_s kC9 rfl rfl ?_)
      refine R_g kC9 rfl ?_
      refine (show R d 64 23 [some (.ref o), some (.int (nI k + nI 1))] [] (upH h2 (o + 1) (ints 5 (upd F k (nI 0)))) Q from ?_)
      rw [nI_add]
      refine ih (k + 1) _ (upd F k (nI 0)) (by omega) (hf.up _ (by omega) (by omega)) (hB.unc _) (fun q hq => ?_)
      by_cases e : q = k
      · rw [e, pk_us]
      · rw [pk_un e]; exact hF q (by omega)
theorem sp_BO_grow0 (d : Nat) (hf : Fam n S) (hB : BX h o fam n S Lm b) (hFe : ∀ q, 1 ≤ q → q < 32 → b.Fe q = felM S (delM S (2 ^ n - 1)) q) (hNc : ∀ k, k < 5 → b.Nc k = nI 0) (hco : b.co = 0) (hb : c120 n S) : ∃ h', (∃ b2, frI o (o + 13) h h' ∧ BX h' o fam n S Lm b2 ∧ kpG b b2 ∧ GA n (allN n S) b2.Nc b2.Nr b2.co) ∧ Cl (d + 6) 66 [.ref o, .int (nI 0), .int (delM S (2 ^ n - 1)), .int (nI 0)] h none h' := by
  have kC9 := co_BO_grow
  have hn := hf.2.1
  have hn2 := hf.1
  have o3 := hB.o3
  have p5 := pow5 hn
  refine Cl_eH kC9 rfl rfl ?_
  repeat (refine R_s kC9 rfl rfl ?_)
  refine Z_lt kC9 rfl (rfl) (by omega) (fun hc => ?_) (fun hc => ?_)
  · omega
  · repeat (refine R_s kC9 rfl rfl ?_)
    refine R_get kC9 rfl (hB.ob) rfl ?_
    refine R_alen kC9 rfl hB.nc (by omega) ?_
    refine R_lt kC9 rfl (u := 0) rfl rfl (by omega) (by omega) (fun _ => ?_) (fun q => by omega)
    repeat (refine R_s kC9 rfl rfl ?_)
    refine R_get kC9 rfl (hB.ob) rfl ?_
    repeat (refine R_s kC9 rfl rfl ?_)
    refine R_ild kC9 rfl hB.nc (k := 0) rfl (by omega) (by omega) ?_
    repeat (refine R_s kC9 rfl rfl ?_)
    refine R_ist kC9 rfl hB.nc (by omega) (k := 0) rfl (by omega) (by omega) ?_
    refine (show R (d + 6) 66 16 [some (.ref o), some (.int (nI 0)), some (.int (delM S (2 ^ n - 1))), some (.int (nI 0)), none, none, none] [] (upH h (o + 1) (ints 5 (upd b.Nc 0 (b.Nc 0 + nI 1)))) _ from ?_)
    rw [hNc 0 (by omega), nI_add]
    have hB1 := hB.unc (upd b.Nc 0 (nI (0 + 1)))
    have hf1 : frI o (o + 13) h (upH h (o + 1) (ints 5 (upd b.Nc 0 (nI (0 + 1))))) := (frI.refl _ _ _).up _ (by omega) (by omega)
    repeat (refine R_s kC9 rfl rfl ?_)
    refine R_get kC9 rfl (hB1.ob) rfl ?_
    refine R_get kC9 rfl (hB1.fc.2) rfl ?_
    repeat (refine R_s kC9 rfl rfl ?_)
    refine R_ne kC9 rfl (u := 0) rfl (pk_sub (by omega)) (by omega) (by omega) (fun hne => ?_) (fun heq => by omega)
    repeat (refine R_s kC9 rfl rfl ?_)
    refine R_cs kC9 rfl rfl rfl rfl (sp_JI_bitCount (d + 5) _ _) ?_
    iterate 1 (refine R_s kC9 rfl rfl ?_)
    rw [← els_len]
    have e1 : allN n S = [[]] ++ cgL n S 32 [] (els (delM S (2 ^ n - 1))) := by
      rw [← all_cn hf]
      unfold cnL
      rw [if_neg (show ¬ ([] : List Nat).length = n - 1 by simp; omega)]
      rfl
    have key := lc_grow (o := o) (fam := fam) (Lm := Lm) (S := S) (Fc := delM S (2 ^ n - 1)) (d + 5 - n) hn hn2 32 (n - 2) (delM S (2 ^ n - 1)) [] [[]] _ _ (delM S (2 ^ n - 1)) none hB1 hFe (by rw [els_len]; exact cnt_le _ _) (fun t ht => ?_) (by simp; omega) (fun t ht => by cases ht) ⟨fun k hk => ?_, ?_, ?_⟩ (by rw [← e1]; exact hb) (Or.inl rfl)
    · rw [show d + 5 - n + (n - 2) + 3 = d + 6 by omega] at key
      rw [chM_nil] at key
      rw [e1]
      obtain ⟨m, r, h3, hr, k1, b3, k2, k3, k4, k5⟩ := key
      exact ⟨m, r, h3, hr, k1, b3, hf1.trans k2, k3, k4, k5⟩
    · obtain ⟨t1, t2⟩ := els_mem.mp ht
      refine ⟨?_, t2⟩
      cases t with
      | zero => rw [delM_bt S (by omega), hf.b0] at t2; cases t2
      | succ t => omega
    · by_cases e : k = 0
      · subst e
        show upd b.Nc 0 (nI (0 + 1)) 0 = _
        rw [pk_us]
        rfl
      · show upd b.Nc 0 (nI (0 + 1)) k = _
        rw [pk_un e, hNc k hk]
        have : lenN [[]] k = 0 := by unfold lenN; rw [List.filter_cons_of_neg (by simp; omega)]; rfl
        rw [this]
    · have : corL n [[]] = [] := by unfold corL; rw [List.filter_cons_of_neg (by simp; omega)]; rfl
      rw [this]; exact hco
    · have : corL n [[]] = [] := by unfold corL; rw [List.filter_cons_of_neg (by simp; omega)]; rfl
      rw [this]
      intro i x hx
      simp at hx
theorem sp_BO_countNests (d : Nat) (hB : BX h o fam n S Lm b) (hf : Fam n S) (hb : c120 n S) (hI : bIv b) : ∃ h', (∃ b', frI o (o + 13) h h' ∧ BX h' o fam n S Lm b' ∧ bOK n S b') ∧ Cl (d + 7) 64 [.ref o] h none h' := by
  have kC9 := co_BO_countNests
  have hn := hf.2.1
  have hn2 := hf.1
  have o3 := hB.o3
  have p5 := pow5 hn
  have p4 : 4 ≤ 2 ^ n := (Nat.pow_le_pow_right (by omega) hn2 : 2 ^ 2 ≤ 2 ^ n)
  refine Cl_eH kC9 rfl rfl ?_
  repeat (refine R_s kC9 rfl rfl ?_)
  refine R_get kC9 rfl (hB.ob) rfl ?_
  repeat (refine R_s kC9 rfl rfl ?_)
  refine R_get kC9 rfl (hB.ob) rfl ?_
  refine R_get kC9 rfl (hB.fc.2) rfl ?_
  refine Rr_ne kC9 rfl (fun hne => ?_) (fun heq => ?_)
  · repeat (refine R_s kC9 rfl rfl ?_)
    refine R_get kC9 rfl (hB.ob) rfl ?_
    refine R_get kC9 rfl (hB.fc.2) rfl ?_
    refine R_put kC9 rfl hB.ob o3 (Nat.le_of_ble_eq_true rfl) rfl ?_
    refine (show R (d + 7) 64 12 [some (.ref o), none] [] (upH h o (bob o fam S b.ar b.fa (nI b.co))) _ from ?_)
    repeat (refine R_s kC9 rfl rfl ?_)
    refine R_put kC9 rfl (upH_at _ _ _) o3 (Nat.le_of_ble_eq_true rfl) rfl ?_
    rw [upH_upH]
    repeat (refine R_s kC9 rfl rfl ?_)
    refine R_put kC9 rfl (upH_at _ _ _) o3 (Nat.le_of_ble_eq_true rfl) rfl ?_
    rw [upH_upH]
    repeat (refine R_s kC9 rfl rfl ?_)
    refine R_put kC9 rfl (upH_at _ _ _) o3 (Nat.le_of_ble_eq_true rfl) rfl ?_
    rw [upH_upH]
    refine (show R (d + 7) 64 21 [some (.ref o), none] [] (upH h o (bob o fam S 0 (-1) (nI 0))) _ from ?_)
    have hB1 := hB.uob S 0 (-1) 0
    have hf1 : frI o (o + 13) h (upH h o (bob o fam S 0 (-1) (nI 0))) := (frI.refl _ _ _).up _ (by omega) (by omega)
    iterate 2 (refine R_s kC9 rfl rfl ?_)
    refine lc_clear (b := b.sO S 0 (-1) 0) (fam := fam) (n := n) (S := S) (Lm := Lm) (d + 7) _ (fun h2 F q1 q2 q3 => ?_) 5 0 _ b.Nc (by omega) (frI.refl _ _ _) (show BX _ o fam n S Lm ((b.sO S 0 (-1) 0).sNc b.Nc) from hB1) (fun q hq => by omega)
    repeat (refine R_s kC9 rfl rfl ?_)
    refine R_get kC9 rfl (q2.ob) rfl ?_
    refine R_get kC9 rfl (q2.fc.2) rfl ?_
    repeat (refine R_s kC9 rfl rfl ?_)
    refine R_get kC9 rfl (q2.ob) rfl ?_
    refine R_cv kC9 rfl rfl rfl rfl q2.fc.2 q2.fc.1 (sp_FA_whole (d + 6) q2.fc hn) ?_
    iterate 4 (refine R_s kC9 rfl rfl ?_)
    refine (show R (d + 7) 64 46 [some (.ref o), some (.int (nI 5))] [.int (S &&& ((nI 1 <<< (nI (2 ^ n - 1) &&& 31)) ^^^ (-1)))] h2 _ from ?_)
    have ed : S &&& ((nI 1 <<< (nI (2 ^ n - 1) &&& 31)) ^^^ (-1)) = delM S (2 ^ n - 1) := b_ext (fun i hi => by rw [b_and, m1_xor_bt _ hi, one_bt (by omega) hi, delM_bt S hi])
    rw [ed]
    repeat (refine R_s kC9 rfl rfl ?_)
    obtain ⟨h3, ⟨z1, F2, z2, z3⟩, z4⟩ := sp_BO_findFellows (d + 5) q2 (delM S (2 ^ n - 1))
    refine R_cv kC9 rfl rfl rfl rfl q2.ob o3 z4 ?_
    repeat (refine R_s kC9 rfl rfl ?_)
    obtain ⟨h4, ⟨b4, y1, y2, y3, y4⟩, y5⟩ := sp_BO_grow0 d hf z2 z3 q3 rfl hb
    refine R_cs kC9 rfl rfl rfl rfl y5 ?_
    refine R_rv kC9 rfl ⟨rfl, b4, ((hf1.trans q1).trans z1).trans y1, y2, ⟨y3.1, y4.1, ?_⟩, Or.inl ⟨y3.2.1, y3.2.2.1, y4.2.2⟩⟩
    rw [y4.2.1, cornS_len]
  · refine R_rv kC9 rfl ⟨rfl, b, frI.refl _ _ _, hB, ?_⟩
    rcases hI with hI | ⟨m, S2, i1, i2⟩
    · exact absurd (heq.symm.trans hI) hf.ne0
    · have e : S2 = S := i2.1.1.symm.trans heq
      subst e
      have := i1.n_eq hf
      subst this
      exact i2
theorem bOK.iv {b : BoS} (h : bOK n S b) (hf : Fam n S) : bIv b := Or.inr ⟨n, S, hf, h⟩
end
