/-! THE CLASS, 20: Body: leastOver, ordersTo, steps -/
def szN (n : Nat) (y : List Nat) : Nat := y.foldl (fun a t => a * pc t) n
theorem szN_cons (n t : Nat) (y : List Nat) : szN n (t :: y) = szN (n * pc t) y := rfl
theorem pc_cnt : ∀ t, t < 32 → cnt (bt (nI t)) 32 = pc t := by decide +kernel
theorem pc_pos : ∀ t, t < 32 → 1 ≤ t → 1 ≤ pc t ∧ pc t ≤ 5 := by decide +kernel
theorem szN_pos : ∀ (y : List Nat) (n : Nat), 1 ≤ n → (∀ t ∈ y, 1 ≤ t ∧ t < 32) → 1 ≤ szN n y ∧ szN n y ≤ n * 5 ^ y.length
  | [], n, hn, _ => by
    show 1 ≤ n ∧ n ≤ n * 1
    omega
  | t :: y, n, hn, h => by
    have ht := h t List.mem_cons_self
    obtain ⟨p1, p2⟩ := pc_pos t ht.2 ht.1
    have h1 : 1 ≤ n * pc t := Nat.mul_pos hn p1
    obtain ⟨i1, i2⟩ := szN_pos y (n * pc t) h1 (fun u hu => h u (List.mem_cons_of_mem _ hu))
    rw [szN_cons]
    refine ⟨i1, Nat.le_trans i2 ?_⟩
    rw [List.length_cons, Nat.pow_succ, Nat.mul_comm (5 ^ y.length) 5, ← Nat.mul_assoc]
    exact Nat.mul_le_mul_right _ (Nat.mul_le_mul_left _ p2)
section
variable {h h' : AH} {o fam n : Nat} {S Lm : Int32} {b : BoS}
theorem lc_orderT (d : Nat) (hA : AR h o fam n S Lm b) (hn : n ≤ 5) (hn1 : 1 ≤ n) (v : Int32) {Z : Nat} (hZ : 1 ≤ Z ∧ Z < 2 ^ 31) : ∀ (m : Nat) (y : Int32) (a : Nat), (els y).length = m → szN a (els y) = Z → R (d + 2) 83 14 [some (.ref o), some (.int v), some (.int (nI a)), some (.int y), some (.int (nI m))] [] h (fun r2 h2 => r2 = some (.int (nI (fcN n / Z))) ∧ h2 = h) := by
  have kC9 := co_BO_ordersTo
  have hfc : fcN n < 2 ^ 31 := by
    have : ∀ n, n ≤ 5 → fcN n < 2 ^ 31 := by decide
    exact this n hn
  intro m
  induction m with
  | zero =>
    intro y a hm hz
    have e0 := List.length_eq_zero_iff.mp hm
    rw [e0] at hz
    have : a = Z := hz
    subst this
    repeat (refine R_s kC9 rfl rfl ?_)
    refine Z_le kC9 rfl (rfl) (by omega) (fun hc => ?_) (fun hc => ?_)
    · repeat (refine R_s kC9 rfl rfl ?_)
      refine Z_le kC9 rfl rfl (by omega) (fun q => by omega) (fun _ => ?_)
      repeat (refine R_s kC9 rfl rfl ?_)
      refine R_get kC9 rfl (hA.1.ob) rfl ?_
      refine R_cv kC9 rfl rfl rfl rfl hA.1.fc.2 hA.1.fc.1 (sp_FA_orderCount (d + 1) hA.1.fc hn hn1) ?_
      repeat (refine R_s kC9 rfl rfl ?_)
      refine R_div kC9 rfl (nI_ne0 (by omega) (by omega)) ?_
      refine R_g kC9 rfl ?_
      exact R_ri kC9 rfl ⟨ri_eq (pk_div hfc (by omega) (by omega)), rfl⟩
    · omega
  | succ m ih =>
    intro y a hm hz
    have hl : m < 32 := by
      have := els_len y
      have := cnt_le (bt y) 32
      omega
    obtain ⟨t, l, ht⟩ : ∃ t l, els y = t :: l := by
      cases he : els y with
      | nil => rw [he] at hm; cases hm
      | cons t l => exact ⟨t, l, rfl⟩
    have t32 : t < 32 := els32 y t (by rw [ht]; exact List.mem_cons_self)
    rw [ht, szN_cons] at hz
    repeat (refine R_s kC9 rfl rfl ?_)
    refine Z_le kC9 rfl (u := m + 1) rfl (by omega) (fun q => by omega) (fun _ => ?_)
    repeat (refine R_s kC9 rfl rfl ?_)
    refine R_cs kC9 rfl rfl rfl rfl (sp_NB_leastOf d ht) ?_
    have key := sp_JI_bitCount (d + 1) h (nI t)
    rw [pc_cnt t t32] at key
    refine R_cs kC9 rfl rfl rfl rfl (key) ?_
    repeat (refine R_s kC9 rfl rfl ?_)
    refine R_g kC9 rfl ?_
    refine (show R (d + 2) 83 14 [some (.ref o), some (.int v), some (.int (nI a * nI (pc t))), some (.int (y &&& (y - nI 1))), some (.int (nI (m + 1) + (-1)))] [] h _ from ?_)
    rw [pk_mul, pk_m1]
    refine ih _ _ ?_ ?_
    · rw [els_tail ht]
      rw [ht] at hm
      exact Nat.succ.inj hm
    · rw [els_tail ht]; exact hz
theorem sp_BO_ordersTo (d : Nat) (hP : BP h o fam n S Lm b) {c : Nat} (hc : c < (cornS n S).length) : ∃ h', BQ h o fam n S Lm h' ∧ Cl (d + 9) 83 [.ref o, .int (nI c)] h (some (.int (nI (fcN n / szN n (crL n S c))))) h' := by
  have kC9 := co_BO_ordersTo
  have hN := hP.N
  have hn := hP.2.1.2.1
  have hn2 := hP.2.1.1
  obtain ⟨k1, k2, k3, k4, k5⟩ := crL_ok hn hn2 hc
  have hsz := szN_pos (crL n S c) n (by omega) k3.2
  have hb : szN n (crL n S c) < 2 ^ 31 := by
    refine Nat.lt_of_le_of_lt hsz.2 ?_
    have : 5 ^ (crL n S c).length ≤ 5 ^ 4 := Nat.pow_le_pow_right (by omega) (by omega)
    have := Nat.mul_le_mul hn this
    omega
  refine Cl_eH kC9 rfl rfl ?_
  obtain ⟨h1, b1, f1, A1, cl1⟩ := hP.arr d
  repeat (refine R_s kC9 rfl rfl ?_)
  refine R_cv kC9 rfl rfl rfl rfl hP.1.ob hP.1.o3 cl1 ?_
  repeat (refine R_s kC9 rfl rfl ?_)
  refine R_get kC9 rfl (A1.1.ob) rfl ?_
  refine R_get kC9 rfl (A1.1.fc.2) rfl ?_
  repeat (refine R_s kC9 rfl rfl ?_)
  refine R_get kC9 rfl (A1.1.ob) rfl ?_
  repeat (refine R_s kC9 rfl rfl ?_)
  refine R_ild kC9 rfl A1.1.nr (k := c) rfl (by omega) (by omega) ?_
  rw [A1.nr hc]
  repeat (refine R_s kC9 rfl rfl ?_)
  refine R_cs kC9 rfl rfl rfl rfl (sp_JI_bitCount (d + 8) h1 _) ?_
  iterate 1 (refine R_s kC9 rfl rfl ?_)
  rw [← els_len]
  obtain ⟨m, r, h2, hr, e1, e2⟩ := lc_orderT (d + 7) A1 hn (by omega) (nI c) ⟨hsz.1, hb⟩ _ (chM (crL n S c)) n rfl (by rw [chM_els k3])
  exact ⟨m, r, h2, hr, e1, b1, by rw [e2]; exact f1, by rw [e2]; exact A1.1, A1.iv hP.2.1⟩
theorem lc_leastI (d : Nat) (Q : Option Value → AH → Prop) (hA : AR h o fam n S Lm b) (hn : n ≤ 5) (hN : (cornS n S).length ≤ 120) {s c : Nat} (hs : s < 32) (hcl : c < (cornS n S).length) (w2 : Int32) (kk : R (d + 1) 91 37 [some (.ref o), some (.int (nI s)), some (.int w2), some (.int (nI c)), some (.int (nI (smS s (crow n S c) n))), some (.int (nI n))] [] h Q) : ∀ (m p : Nat), p + m = n → R (d + 1) 91 14 [some (.ref o), some (.int (nI s)), some (.int w2), some (.int (nI c)), some (.int (nI (smS s (crow n S c) p))), some (.int (nI p))] [] h Q := by
  have kC9 := co_BO_leastOver
  intro m
  induction m with
  | zero =>
    intro p hp
    have : p = n := by omega
    subst this
    repeat (refine R_s kC9 rfl rfl ?_)
    refine R_get kC9 rfl (hA.1.ob) rfl ?_
    refine R_get kC9 rfl (hA.1.fc.2) rfl ?_
    refine R_ge kC9 rfl (rfl) (rfl) (by omega) (by omega) (fun hc => ?_) (fun hc => ?_)
    · exact kk
    · omega
  | succ m ih =>
    intro p hp
    have ih1 := ih (p + 1) (by omega)
    repeat (refine R_s kC9 rfl rfl ?_)
    refine R_get kC9 rfl (hA.1.ob) rfl ?_
    refine R_get kC9 rfl (hA.1.fc.2) rfl ?_
    refine R_ge kC9 rfl (rfl) (rfl) (by omega) (by omega) (fun hc => ?_) (fun hc => ?_)
    · omega
    · iterate 6 (refine R_s kC9 rfl rfl ?_)
      refine (show R (d + 1) 91 25 [some (.ref o), some (.int (nI s)), some (.int w2), some (.int (nI c)), some (.int (nI (smS s (crow n S c) p))), some (.int (nI p))] [.int ((nI s >>> (nI p &&& 31)) &&& nI 1), .int (nI (smS s (crow n S c) p))] h Q from ?_)
      rw [shr_bt (by omega), nI_bt p (by omega)]
      repeat (refine R_s kC9 rfl rfl ?_)
      refine R_get kC9 rfl (hA.1.ob) rfl ?_
      repeat (refine R_s kC9 rfl rfl ?_)
      refine R_ild kC9 rfl hA.1.pl (k := c) rfl (by omega) (by omega) ?_
      rw [hA.pl hcl]
      repeat (refine R_s kC9 rfl rfl ?_)
      refine R_cv kC9 rfl rfl rfl rfl hA.1.ob hA.1.o3 (sp_BO_atOf d hA.1 hn (rowF_lt n S (crL n S c)) (by omega)) ?_
      repeat (refine R_s kC9 rfl rfl ?_)
      refine R_g kC9 rfl ?_
      refine (show R (d + 1) 91 14 [some (.ref o), some (.int (nI s)), some (.int w2), some (.int (nI c)), some (.int (nI (smS s (crow n S c) p) + b2i (s.testBit p) * nI (crow n S c p))), some (.int (nI p + nI 1))] [] h Q from ?_)
      rw [b2i_nI, pk_mul, nI_add, nI_add]
      rw [smS_succ] at ih1
      have e : (s.testBit p).toNat * crow n S c p = if s.testBit p = true then crow n S c p else 0 := by
        cases s.testBit p <;> simp
      rw [e]
      exact ih1
theorem lc_leastO (d : Nat) (hA : AR h o fam n S Lm b) (hn : n ≤ 5) (hN : (cornS n S).length ≤ 120) {s : Nat} (hs : s < 32) : ∀ (m c : Nat) (w4 w5 : Option Value), c + m = (cornS n S).length → ((w4 = none ∧ w5 = none) ∨ ∃ x y : Int32, w4 = some (.int x) ∧ w5 = some (.int y)) → R (d + 1) 91 6 [some (.ref o), some (.int (nI s)), some (.int (fI (lsO (fun c => smS s (crow n S c) n) c))), some (.int (nI c)), w4, w5] [] h (fun r2 h2 => r2 = some (.int (fI (lsO (fun c => smS s (crow n S c) n) (cornS n S).length))) ∧ h2 = h) := by
  have kC9 := co_BO_leastOver
  have hlt : ∀ c, smS s (crow n S c) n < 2 ^ 31 := fun c => by
    have := smS_lt (r := crow n S c) (fun p => Nat.le_of_lt (rowF_lt n S (crL n S c) p)) s n
    omega
  intro m
  induction m with
  | zero =>
    intro c w4 w5 hc hw
    have : c = (cornS n S).length := by omega
    subst this
    repeat (refine R_s kC9 rfl rfl ?_)
    refine R_get kC9 rfl (hA.1.ob) rfl ?_
    rw [hA.co]
    refine R_ge kC9 rfl (rfl) (rfl) (by omega) (by omega) (fun hc => ?_) (fun hc => ?_)
    · repeat (refine R_s kC9 rfl rfl ?_)
      exact R_ri kC9 rfl ⟨rfl, rfl⟩
    · omega
  | succ m ih =>
    intro c w4 w5 hc hw
    have ih1 := ih (c + 1)
    rw [lsO_succ] at ih1
    have body : R (d + 1) 91 14 [some (.ref o), some (.int (nI s)), some (.int (fI (lsO (fun c => smS s (crow n S c) n) c))), some (.int (nI c)), some (.int (nI 0)), some (.int (nI 0))] [] h (fun r2 h2 => r2 = some (.int (fI (lsO (fun c => smS s (crow n S c) n) (cornS n S).length))) ∧ h2 = h) := by
      refine lc_leastI d _ hA hn hN hs (show c < (cornS n S).length by omega) _ ?_ n 0 (by omega)
      repeat (refine R_s kC9 rfl rfl ?_)
      refine Z_ne kC9 rfl rfl (by omega) (fun hd => ?_) (fun hd => ?_)
      · obtain ⟨l, hl⟩ : ∃ l, lsO (fun c => smS s (crow n S c) n) c = some l := by
          cases hq : lsO (fun c => smS s (crow n S c) n) c with
          | some l => exact ⟨l, rfl⟩
          | none =>
            exfalso
            obtain ⟨c', rfl⟩ : ∃ c', c = c' + 1 := ⟨c - 1, by omega⟩
            rw [lsO_succ] at hq
            split at hq
            · cases hq
            · split at hq <;> cases hq
        have hl31 := lsO_lt (f := fun c => smS s (crow n S c) n) hlt c l hl
        rw [hl] at ih1 ⊢
        repeat (refine R_s kC9 rfl rfl ?_)
        refine R_min kC9 rfl (Nat.le_of_ble_eq_true rfl) ?_
        have e : (if nI (smS s (crow n S c) n) < fI (some l) then nI (smS s (crow n S c) n) else fI (some l)) = fI (if smS s (crow n S c) n < l then some (smS s (crow n S c) n) else some l) := by
          show (if nI (smS s (crow n S c) n) < nI l then nI (smS s (crow n S c) n) else nI l) = _
          have hh := nI_ltI (hlt c) hl31
          by_cases q : smS s (crow n S c) n < l
          · rw [if_pos (hh.mpr q), if_pos q]; rfl
          · rw [if_neg (fun z => q (hh.mp z)), if_neg q]; rfl
        rw [e]
        repeat (refine R_s kC9 rfl rfl ?_)
        refine R_g kC9 rfl ?_
        refine (show R (d + 1) 91 6 [some (.ref o), some (.int (nI s)), some (.int (fI (if smS s (crow n S c) n < l then some (smS s (crow n S c) n) else some l))), some (.int (nI c + nI 1)), some (.int (nI (smS s (crow n S c) n))), some (.int (nI n))] [] h _ from ?_)
        rw [nI_add]
        exact ih1 _ _ (by omega) (Or.inr ⟨_, _, rfl, rfl⟩)
      · subst hd
        repeat (refine R_s kC9 rfl rfl ?_)
        refine R_g kC9 rfl ?_
        repeat (refine R_s kC9 rfl rfl ?_)
        refine R_g kC9 rfl ?_
        exact ih1 _ _ (by omega) (Or.inr ⟨_, _, rfl, rfl⟩)
    repeat (refine R_s kC9 rfl rfl ?_)
    refine R_get kC9 rfl (hA.1.ob) rfl ?_
    rw [hA.co]
    refine R_ge kC9 rfl (rfl) (rfl) (by omega) (by omega) (fun hc => ?_) (fun hc => ?_)
    · omega
    · rcases hw with ⟨rfl, rfl⟩ | ⟨x, y, rfl, rfl⟩
      · iterate 4 (refine R_s kC9 rfl rfl ?_)
        exact body
      · iterate 4 (refine R_s kC9 rfl rfl ?_)
        exact body
theorem sp_BO_leastOver (d : Nat) (hP : BP h o fam n S Lm b) {s : Nat} (hs : s < 32) : ∃ h', BQ h o fam n S Lm h' ∧ Cl (d + 9) 91 [.ref o, .int (nI s)] h (some (.int (fI (lsO (fun c => smS s (crow n S c) n) (cornS n S).length)))) h' := by
  have kC9 := co_BO_leastOver
  refine Cl_eH kC9 rfl rfl ?_
  obtain ⟨h1, b1, f1, A1, cl1⟩ := hP.arr d
  repeat (refine R_s kC9 rfl rfl ?_)
  refine R_cv kC9 rfl rfl rfl rfl hP.1.ob hP.1.o3 cl1 ?_
  iterate 4 (refine R_s kC9 rfl rfl ?_)
  obtain ⟨m, r, h2, hr, e1, e2⟩ := lc_leastO (d + 8) A1 hP.2.1.2.1 hP.N hs _ 0 none none (Nat.zero_add _) (Or.inl ⟨rfl, rfl⟩)
  exact ⟨m, r, h2, hr, e1, b1, by rw [e2]; exact f1, by rw [e2]; exact A1.1, A1.iv hP.2.1⟩
/-- a body arranged, all but its steps as it was -/
def ARs (h : AH) (o fam n : Nat) (S Lm : Int32) (b : BoS) (D Q : NF) (h2 : AH) : Prop := frI o (o + 13) h h2 ∧ AR h2 o fam n S Lm ((b.sDi D).sQu Q)
theorem ARs.ud {D Q : NF} {h2 : AH} (hA : ARs h o fam n S Lm b D Q h2) (D' : NF) : ARs h o fam n S Lm b D' Q (upH h2 (o + 7) (ints 120 D')) := ⟨hA.1.up _ (by omega) (by omega), hA.2.1.udi D', hA.2.2.1, hA.2.2.2⟩
theorem ARs.uq {D Q : NF} {h2 : AH} (hA : ARs h o fam n S Lm b D Q h2) (Q' : NF) : ARs h o fam n S Lm b D Q' (upH h2 (o + 8) (ints 120 Q')) := ⟨hA.1.up _ (by omega) (by omega), hA.2.1.uqu Q', hA.2.2.1, hA.2.2.2⟩
theorem lc_spK (d : Nat) (Q : Option Value → AH → Prop) (hf : Fam n S) (hl : (cornS n S).length ≤ 120) (hfl : flOK n S) {i u : Nat} (v1 : Int32) : ∀ (m j : Nat) (s : BS) (F Qf : NF) (h2 : AH) (w : Option Value), j + m = n - 1 → BInv (cornS n S).length s → BRel (cornS n S).length s F Qf → ARs h o fam n S Lm b F Qf h2 → s.2[i]? = some u → (w = none ∨ ∃ x : Int32, w = some (.int x)) → (∀ (F' Qf' : NF) (h3 : AH) (w' : Option Value), BRel (cornS n S).length (bfJ (nrN n S) u m j s) F' Qf' → ARs h o fam n S Lm b F' Qf' h3 → (w' = none ∨ ∃ x : Int32, w' = some (.int x)) → R d 86 85 [some (.ref o), some (.int v1), some (.int (nI (bfJ (nrN n S) u m j s).2.length)), some (.int (nI i)), some (.int (nI u)), some (.int (nI (n - 1))), w'] [] h3 Q) → R d 86 41 [some (.ref o), some (.int v1), some (.int (nI s.2.length)), some (.int (nI i)), some (.int (nI u)), some (.int (nI j)), w] [] h2 Q := by
  have kC9 := co_BO_spread
  have hn := hf.2.1
  have hn2 := hf.1
  intro m
  induction m with
  | zero =>
    intro j s F Qf h2 w hj hI hR hA hu hw kk2
    repeat (refine R_s kC9 rfl rfl ?_)
    refine R_get kC9 rfl (hA.2.1.ob) rfl ?_
    refine R_get kC9 rfl (hA.2.1.fc.2) rfl ?_
    repeat (refine R_s kC9 rfl rfl ?_)
    refine R_ge kC9 rfl rfl (pk_sub (by omega)) (by omega) (by omega) (fun q => ?_) (fun q => by omega)
    have : j = n - 1 := by omega
    subst this
    exact kk2 F Qf h2 w hR hA hw
  | succ m ih =>
    intro j s F Qf h2 w hj hI hR hA hu hw kk2
    have o3 := hA.2.1.o3
    have hum := List.mem_of_getElem? hu
    have hu1 := hI.2.1 u hum
    have hlen := hI.len
    obtain ⟨f1, f2⟩ := hfl.at hu1 (show j < n - 1 by omega)
    rw [bfJ_succ] at kk2
    have goon : ∀ (s' : BS) (F' Qf' : NF) (h3 : AH), s' = bfS (nrN n S) u j s → BInv (cornS n S).length s' → BRel (cornS n S).length s' F' Qf' → ARs h o fam n S Lm b F' Qf' h3 → s'.2[i]? = some u → R d 86 83 [some (.ref o), some (.int v1), some (.int (nI s'.2.length)), some (.int (nI i)), some (.int (nI u)), some (.int (nI j)), some (.int (nI (nrN n S u j)))] [] h3 Q := by
      intro s' F' Qf' h3 e a1 a2 a3 a4
      subst e
      repeat (refine R_s kC9 rfl rfl ?_)
      refine R_g kC9 rfl ?_
      refine (show R d 86 41 [some (.ref o), some (.int v1), some (.int (nI (bfS (nrN n S) u j s).2.length)), some (.int (nI i)), some (.int (nI u)), some (.int (nI j + nI 1)), some (.int (nI (nrN n S u j)))] [] h3 Q from ?_)
      rw [nI_add]
      exact ih (j + 1) _ F' Qf' h3 _ (by omega) a1 a2 a3 a4 (Or.inr ⟨_, rfl⟩) kk2
    have body : R d 86 57 [some (.ref o), some (.int v1), some (.int (nI s.2.length)), some (.int (nI i)), some (.int (nI u)), some (.int (nI j)), some (.int (nI (nrN n S u j)))] [] h2 Q := by
      repeat (refine R_s kC9 rfl rfl ?_)
      refine R_get kC9 rfl (hA.2.1.ob) rfl ?_
      repeat (refine R_s kC9 rfl rfl ?_)
      refine R_ild kC9 rfl hA.2.1.di (k := nrN n S u j) rfl (by omega) (by omega) ?_
      rw [show ((b.sDi F).sQu Qf).Di (nrN n S u j) = fI (s.1 (nrN n S u j)) from hR.1 _ f1]
      obtain ⟨b1, b2, b3⟩ := bfS_inv (nb := nrN n S) (j := j) hI hum f1
      cases hfq : s.1 (nrN n S u j) with
      | none =>
        obtain ⟨e, he⟩ : ∃ e, s.1 u = some e := by
          cases hq : s.1 u with
          | none => exact absurd hq ((hI.2.2.1 u).mp hum)
          | some e => exact ⟨e, rfl⟩
        have room := hI.room f1 hfq
        refine Zr_ge kC9 rfl (fun q => absurd q (by decide)) (fun _ => ?_)
        repeat (refine R_s kC9 rfl rfl ?_)
        refine R_get kC9 rfl (hA.2.1.ob) rfl ?_
        refine R_alen kC9 rfl hA.2.1.qu (by omega) ?_
        refine R_ge kC9 rfl rfl rfl (by omega) (by omega) (fun q => by omega) (fun _ => ?_)
        repeat (refine R_s kC9 rfl rfl ?_)
        refine R_get kC9 rfl (hA.2.1.ob) rfl ?_
        repeat (refine R_s kC9 rfl rfl ?_)
        refine R_get kC9 rfl (hA.2.1.ob) rfl ?_
        repeat (refine R_s kC9 rfl rfl ?_)
        refine R_ild kC9 rfl hA.2.1.di (k := u) rfl (by omega) (by omega) ?_
        rw [show ((b.sDi F).sQu Qf).Di u = fI (s.1 u) from hR.1 _ hu1, he]
        iterate 2 (refine R_s kC9 rfl rfl ?_)
        refine (show R d 86 76 _ [.int (nI e + nI 1), .int (nI (nrN n S u j)), .ref (o + 7)] h2 Q from ?_)
        rw [nI_add]
        refine R_ist kC9 rfl hA.2.1.di (by omega) (k := nrN n S u j) rfl (by omega) (by omega) ?_
        have hA1 := hA.ud (upd F (nrN n S u j) (nI (e + 1)))
        repeat (refine R_s kC9 rfl rfl ?_)
        refine R_get kC9 rfl hA1.2.1.ob rfl ?_
        repeat (refine R_s kC9 rfl rfl ?_)
        refine R_ist kC9 rfl hA1.2.1.qu (by omega) (k := s.2.length) rfl (by omega) (by omega) ?_
        have hA2 := hA1.uq (upd Qf s.2.length (nI (nrN n S u j)))
        iterate 1 (refine R_s kC9 rfl rfl ?_)
        refine (show R d 86 83 [some (.ref o), some (.int v1), some (.int (nI s.2.length + nI 1)), some (.int (nI i)), some (.int (nI u)), some (.int (nI j)), some (.int (nI (nrN n S u j)))] [] (upH (upH h2 (o + 7) (ints 120 (upd F (nrN n S u j) (nI (e + 1))))) (o + 8) (ints 120 (upd Qf s.2.length (nI (nrN n S u j))))) Q from ?_)
        rw [nI_add]
        have es := bfS_none (nb := nrN n S) (u := u) (j := j) hfq
        have elen : (bfS (nrN n S) u j s).2.length = s.2.length + 1 := by rw [es, List.length_append]; rfl
        have := goon (bfS (nrN n S) u j s) (upd F (nrN n S u j) (nI (e + 1))) (upd Qf s.2.length (nI (nrN n S u j))) _ rfl b1 ?_ hA2 (b3 i u hu)
        · rw [elen] at this
          exact this
        · rw [es, he]
          refine ⟨fun o hoo => ?_, fun i' v hv => ?_⟩
          · dsimp only
            by_cases e2 : o = nrN n S u j
            · subst e2; rw [pk_us, if_pos rfl]; rfl
            · rw [pk_un e2, if_neg e2]; exact hR.1 o hoo
          · dsimp only at hv
            rcases Nat.lt_or_ge i' s.2.length with c1 | c1
            · rw [List.getElem?_append_left c1] at hv
              rw [pk_un (by omega)]
              exact hR.2 i' v hv
            · have hlt := (List.getElem?_eq_some_iff.mp hv).1
              rw [List.length_append] at hlt
              have : i' = s.2.length := by simp at hlt; omega
              subst this
              rw [List.getElem?_append_right (Nat.le_refl _), Nat.sub_self] at hv
              have hz : nrN n S u j = v := by simpa using hv
              subst hz
              rw [pk_us]
      | some e =>
        have he := hI.2.2.2.1 _ e hfq
        refine Zr_ge kC9 rfl (fun _ => ?_) (fun q => absurd (nI_pos' (show e < 2 ^ 31 by omega)) q)
        have es := bfS_some (nb := nrN n S) (u := u) (j := j) hfq
        exact goon s F Qf h2 es.symm hI hR hA hu
    repeat (refine R_s kC9 rfl rfl ?_)
    refine R_get kC9 rfl (hA.2.1.ob) rfl ?_
    refine R_get kC9 rfl (hA.2.1.fc.2) rfl ?_
    repeat (refine R_s kC9 rfl rfl ?_)
    refine R_ge kC9 rfl rfl (pk_sub (by omega)) (by omega) (by omega) (fun q => by omega) (fun q => ?_)
    repeat (refine R_s kC9 rfl rfl ?_)
    refine R_get kC9 rfl (hA.2.1.ob) rfl ?_
    repeat (refine R_s kC9 rfl rfl ?_)
    refine R_ild kC9 rfl hA.2.1.fl (k := 4 * u + j) (show nI u * nI 4 + nI j = _ by rw [pk_mul, nI_add, Nat.mul_comm]) (by omega) (by omega) ?_
    rw [hA.2.fl hu1 (by omega)]
    rcases hw with rfl | ⟨x, rfl⟩
    · iterate 1 (refine R_s kC9 rfl rfl ?_)
      exact body
    · iterate 1 (refine R_s kC9 rfl rfl ?_)
      exact body
theorem lc_spI (d : Nat) (hf : Fam n S) (hl : (cornS n S).length ≤ 120) (hfl : flOK n S) (v1 : Int32) : ∀ (m i : Nat) (s : BS) (F Qf : NF) (h2 : AH) (w4 w5 w6 : Option Value), i + m = (cornS n S).length + 1 → BInv (cornS n S).length s → BRel (cornS n S).length s F Qf → ARs h o fam n S Lm b F Qf h2 → ((w4 = none ∧ w5 = none) ∨ (∃ x y : Int32, w4 = some (.int x) ∧ w5 = some (.int y))) ∧ (w6 = none ∨ ∃ x : Int32, w6 = some (.int x)) → R d 86 27 [some (.ref o), some (.int v1), some (.int (nI s.2.length)), some (.int (nI i)), w4, w5, w6] [] h2 (fun r2 h3 => r2 = none ∧ ∃ F' Qf', BRel (cornS n S).length (bfI (nrN n S) (n - 1) m i s) F' Qf' ∧ ARs h o fam n S Lm b F' Qf' h3) := by
  have kC9 := co_BO_spread
  intro m
  induction m with
  | zero =>
    intro i s F Qf h2 w4 w5 w6 hi hI hR hA hw
    have hlen := hI.len
    repeat (refine R_s kC9 rfl rfl ?_)
    refine R_ge kC9 rfl (rfl) (rfl) (by omega) (by omega) (fun hc => ?_) (fun hc => ?_)
    · exact R_rv kC9 rfl ⟨rfl, F, Qf, hR, hA⟩
    · omega
  | succ m ih =>
    intro i s F Qf h2 w4 w5 w6 hi hI hR hA hw
    have hlen := hI.len
    repeat (refine R_s kC9 rfl rfl ?_)
    refine R_ge kC9 rfl (rfl) (rfl) (by omega) (by omega) (fun hc => ?_) (fun hc => ?_)
    · rw [bfI_none (List.getElem?_eq_none (by omega))]
      exact R_rv kC9 rfl ⟨rfl, F, Qf, hR, hA⟩
    · obtain ⟨u, hu⟩ : ∃ u, s.2[i]? = some u := ⟨s.2[i], List.getElem?_eq_getElem hc⟩
      rw [bfI_some hu]
      have hum := List.mem_of_getElem? hu
      have hu1 := hI.2.1 u hum
      have hI2 := bfJ_inv (nb := nrN n S) (n - 1) 0 s hI hum (fun j' hj' => (hfl.at hu1 (by omega)).1)
      have body : R d 86 41 [some (.ref o), some (.int v1), some (.int (nI s.2.length)), some (.int (nI i)), some (.int (nI u)), some (.int (nI 0)), w6] [] h2 (fun r2 h3 => r2 = none ∧ ∃ F' Qf', BRel (cornS n S).length (bfI (nrN n S) (n - 1) m (i + 1) (bfJ (nrN n S) u (n - 1) 0 s)) F' Qf' ∧ ARs h o fam n S Lm b F' Qf' h3) := by
        refine lc_spK (h := h) (b := b) d _ hf hl hfl v1 (n - 1) 0 s F Qf h2 w6 (by omega) hI hR hA hu hw.2 (fun F' Qf' h3 w' hR' hA' hw' => ?_)
        repeat (refine R_s kC9 rfl rfl ?_)
        refine R_g kC9 rfl ?_
        refine (show R d 86 27 [some (.ref o), some (.int v1), some (.int (nI (bfJ (nrN n S) u (n - 1) 0 s).2.length)), some (.int (nI i + nI 1)), some (.int (nI u)), some (.int (nI (n - 1))), w'] [] h3 _ from ?_)
        rw [nI_add]
        exact ih (i + 1) _ F' Qf' h3 _ _ w' (by omega) hI2.1 hR' hA' ⟨Or.inr ⟨_, _, rfl, rfl⟩, hw'⟩
      repeat (refine R_s kC9 rfl rfl ?_)
      refine R_get kC9 rfl (hA.2.1.ob) rfl ?_
      rw [hA.2.co]
      refine R_ge kC9 rfl rfl rfl (by omega) (by omega) (fun q => by omega) (fun _ => ?_)
      repeat (refine R_s kC9 rfl rfl ?_)
      refine R_get kC9 rfl (hA.2.1.ob) rfl ?_
      repeat (refine R_s kC9 rfl rfl ?_)
      refine R_ild kC9 rfl hA.2.1.qu (k := i) rfl (by omega) (by omega) ?_
      rw [show ((b.sDi F).sQu Qf).Qu i = nI u from hR.2 i u hu]
      obtain ⟨hw1, hw2⟩ := hw
      rcases hw1 with ⟨rfl, rfl⟩ | ⟨x, y, rfl, rfl⟩
      · iterate 3 (refine R_s kC9 rfl rfl ?_)
        exact body
      · iterate 3 (refine R_s kC9 rfl rfl ?_)
        exact body
theorem lc_sp0 (d : Nat) (Q : Option Value → AH → Prop) (hl : (cornS n S).length ≤ 120) (v1 : Int32) {Qf : NF} (kk : ∀ (F : NF) (h2 : AH), ARs h o fam n S Lm b F Qf h2 → (∀ q, q < (cornS n S).length → F q = -1) → R d 86 13 [some (.ref o), some (.int v1), some (.int (nI (cornS n S).length)), none, none, none, none] [] h2 Q) : ∀ (m i : Nat) (F : NF) (h2 : AH), i + m = (cornS n S).length → ARs h o fam n S Lm b F Qf h2 → (∀ q, q < i → F q = -1) → R d 86 2 [some (.ref o), some (.int v1), some (.int (nI i)), none, none, none, none] [] h2 Q := by
  have kC9 := co_BO_spread
  intro m
  induction m with
  | zero =>
    intro i F h2 hi hA h1
    repeat (refine R_s kC9 rfl rfl ?_)
    refine R_get kC9 rfl (hA.2.1.ob) rfl ?_
    rw [hA.2.co]
    refine R_ge kC9 rfl (rfl) (rfl) (by omega) (by omega) (fun hc => ?_) (fun hc => ?_)
    · have : i = (cornS n S).length := by omega
      subst this
      exact kk F h2 hA h1
    · omega
  | succ m ih =>
    intro i F h2 hi hA h1
    have o3 := hA.2.1.o3
    repeat (refine R_s kC9 rfl rfl ?_)
    refine R_get kC9 rfl (hA.2.1.ob) rfl ?_
    rw [hA.2.co]
    refine R_ge kC9 rfl (rfl) (rfl) (by omega) (by omega) (fun hc => ?_) (fun hc => ?_)
    · omega
    · repeat (refine R_s kC9 rfl rfl ?_)
      refine R_get kC9 rfl (hA.2.1.ob) rfl ?_
      repeat (refine R_s kC9 rfl rfl ?_)
      refine R_ist kC9 rfl hA.2.1.di (by omega) (k := i) rfl (by omega) (by omega) ?_
      repeat (refine R_s kC9 rfl rfl ?_)
      refine R_g kC9 rfl ?_
      refine (show R d 86 2 [some (.ref o), some (.int v1), some (.int (nI i + nI 1)), none, none, none, none] [] (upH h2 (o + 7) (ints 120 (upd F i (-1)))) Q from ?_)
      rw [nI_add]
      refine ih (i + 1) _ _ (by omega) (hA.ud _) (fun q hq => ?_)
      by_cases e : q = i
      · subst e; rw [pk_us]
      · rw [pk_un e]; exact h1 q (by omega)
theorem sp_BO_spread (d : Nat) (hA : AR h o fam n S Lm b) (hf : Fam n S) (hl : (cornS n S).length ≤ 120) (hfl : flOK n S) {c : Nat} (hc : c < (cornS n S).length) : ∃ h', (∃ F Qf, BRel (cornS n S).length (bsp n S c) F Qf ∧ ARs h o fam n S Lm b F Qf h') ∧ Cl d 86 [.ref o, .int (nI c)] h none h' := by
  have kC9 := co_BO_spread
  refine Cl_eH kC9 rfl rfl ?_
  iterate 2 (refine R_s kC9 rfl rfl ?_)
  refine lc_sp0 (h := h) (b := b) (Qf := b.Qu) (n := n) (S := S) (Lm := Lm) (fam := fam) d _ hl (nI c) (fun F1 h2 hA2 h1 => ?_) (cornS n S).length 0 b.Di h (by omega) ⟨frI.refl _ _ _, hA⟩ (fun q hq => by omega)
  have o3 := hA2.2.1.o3
  repeat (refine R_s kC9 rfl rfl ?_)
  refine R_get kC9 rfl (hA2.2.1.ob) rfl ?_
  repeat (refine R_s kC9 rfl rfl ?_)
  refine R_ist kC9 rfl hA2.2.1.di (by omega) (k := c) rfl (by omega) (by omega) ?_
  have hA3 := hA2.ud (upd F1 c (nI 0))
  repeat (refine R_s kC9 rfl rfl ?_)
  refine R_get kC9 rfl hA3.2.1.ob rfl ?_
  repeat (refine R_s kC9 rfl rfl ?_)
  refine R_ist kC9 rfl hA3.2.1.qu (by omega) (k := 0) rfl (by omega) (by omega) ?_
  have hA4 := hA3.uq (upd b.Qu 0 (nI c))
  iterate 4 (refine R_s kC9 rfl rfl ?_)
  refine lc_spI (h := h) (b := b) d hf hl hfl (nI c) ((cornS n S).length + 1) 0 (bf0 c) _ _ _ none none none (by omega) (bf0_inv hc) ⟨fun o hoo => ?_, fun i u hu => ?_⟩ hA4 ⟨Or.inl ⟨rfl, rfl⟩, Or.inl rfl⟩
  · unfold bf0
    dsimp only
    by_cases e : o = c
    · subst e; rw [pk_us, if_pos rfl]; rfl
    · rw [pk_un e, if_neg e]; exact h1 o hoo
  · unfold bf0 at hu
    dsimp only at hu
    have hi := (List.getElem?_eq_some_iff.mp hu).1
    have : i = 0 := by simp at hi; omega
    subst this
    have : c = u := by simpa using hu
    subst this
    rw [pk_us]
theorem sp_BO_stepsBetween (d : Nat) (hP : BP h o fam n S Lm b) {c e : Nat} (hc : c < (cornS n S).length) (he : e < (cornS n S).length) : ∃ h', BQ h o fam n S Lm h' ∧ Cl (d + 9) 84 [.ref o, .int (nI c), .int (nI e)] h (some (.int (fI ((bsp n S c).1 e)))) h' := by
  have kC9 := co_BO_stepsBetween
  have hN := hP.N
  refine Cl_eH kC9 rfl rfl ?_
  obtain ⟨h1, b1, f1, A1, cl1⟩ := hP.arr d
  repeat (refine R_s kC9 rfl rfl ?_)
  refine R_cv kC9 rfl rfl rfl rfl hP.1.ob hP.1.o3 cl1 ?_
  repeat (refine R_s kC9 rfl rfl ?_)
  obtain ⟨h2, ⟨F, Qf, q1, q2⟩, cl2⟩ := sp_BO_spread (d + 8) A1 hP.2.1 hP.N hP.2.2.2.1.1 hc
  refine R_cv kC9 rfl rfl rfl rfl A1.1.ob hP.1.o3 cl2 ?_
  repeat (refine R_s kC9 rfl rfl ?_)
  refine R_get kC9 rfl (q2.2.1.ob) rfl ?_
  repeat (refine R_s kC9 rfl rfl ?_)
  refine R_ild kC9 rfl q2.2.1.di (k := e) rfl (by omega) (by omega) ?_
  exact R_ri kC9 rfl ⟨ri_eq (q1.1 e he), _, f1.trans q2.1, q2.2.1, q2.2.iv hP.2.1⟩
end
