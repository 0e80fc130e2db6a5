/-! THE CLASS, 19: Body: what it tells -/
/-- a body, arranged -/
def AR (h : AH) (o fam n : Nat) (S Lm : Int32) (b : BoS) : Prop := BX h o fam n S Lm b ∧ bCt n S b ∧ bA1 n S b
section
variable {h h' : AH} {o fam n : Nat} {S Lm : Int32} {b : BoS}
theorem AR.nr (hA : AR h o fam n S Lm b) {c : Nat} (hc : c < (cornS n S).length) : b.Nr c = chM (crL n S c) := (hA.2.2.2.2.1 c _ (crL_get hc)).1
theorem AR.pl (hA : AR h o fam n S Lm b) {c : Nat} (hc : c < (cornS n S).length) : b.Pl c = nI (pkN (crow n S c) n) := (hA.2.2.2.2.1 c _ (crL_get hc)).2.1
theorem AR.wo (hA : AR h o fam n S Lm b) {c : Nat} (hc : c < (cornS n S).length) : b.Wo c = nI (worN n S c) := (hA.2.2.2.2.1 c _ (crL_get hc)).2.2
theorem AR.fl (hA : AR h o fam n S Lm b) {c j : Nat} (hc : c < (cornS n S).length) (hj : j < n - 1) : b.Fl (4 * c + j) = nI (nrN n S c j) := hA.2.2.2.2.2 c j hc hj
theorem AR.co (hA : AR h o fam n S Lm b) : b.co = (cornS n S).length := hA.2.1.2.2
theorem AR.iv (hA : AR h o fam n S Lm b) (hf : Fam n S) : bIv b := Or.inr ⟨n, S, hf, hA.2.1, Or.inr hA.2.2⟩
/-- what a call of a body that is asked needs, and what it leaves -/
def BP (h : AH) (o fam n : Nat) (S Lm : Int32) (b : BoS) : Prop := BX h o fam n S Lm b ∧ Fam n S ∧ c120 n S ∧ flU n S ∧ bIv b
def BQ (h : AH) (o fam n : Nat) (S Lm : Int32) (h' : AH) : Prop := ∃ b', frI o (o + 13) h h' ∧ BX h' o fam n S Lm b' ∧ bIv b'
theorem BP.N (hP : BP h o fam n S Lm b) : (cornS n S).length ≤ 120 := by rw [cornS_len]; exact hP.2.2.1
theorem BP.arr (hP : BP h o fam n S Lm b) (d : Nat) : ∃ h1 b1, frI o (o + 13) h h1 ∧ AR h1 o fam n S Lm b1 ∧ Cl (d + 8) 68 [.ref o] h none h1 := by
  obtain ⟨h1, ⟨b1, a1, a2, a3, a4⟩, cl⟩ := sp_BO_arrange d hP.1 hP.2.1 hP.2.2.1 hP.2.2.2.1 hP.2.2.2.2
  exact ⟨h1, b1, a1, ⟨a2, a3, a4⟩, cl⟩
theorem sp_BO_nestCount (d : Nat) (hP : BP h o fam n S Lm b) {k : Nat} (hk : k < 5) : ∃ h', BQ h o fam n S Lm h' ∧ Cl (d + 8) 61 [.ref o, .int (nI k)] h (some (.int (nI (lenN (allN n S) k)))) h' := by
  have kC9 := co_BO_nestCount
  refine Cl_eH kC9 rfl rfl ?_
  obtain ⟨h1, ⟨b1, f1, B1, ct, ok⟩, cl1⟩ := sp_BO_countNests d hP.1 hP.2.1 hP.2.2.1 hP.2.2.2.2
  repeat (refine R_s kC9 rfl rfl ?_)
  refine R_cv kC9 rfl rfl rfl rfl hP.1.ob hP.1.o3 cl1 ?_
  repeat (refine R_s kC9 rfl rfl ?_)
  refine Z_lt kC9 rfl (rfl) (by omega) (fun hc => ?_) (fun hc => ?_)
  · omega
  · repeat (refine R_s kC9 rfl rfl ?_)
    refine R_get kC9 rfl (B1.ob) rfl ?_
    refine R_alen kC9 rfl B1.nc (by omega) ?_
    refine R_ge kC9 rfl rfl rfl (by omega) (by omega) (fun q => by omega) (fun _ => ?_)
    repeat (refine R_s kC9 rfl rfl ?_)
    refine R_get kC9 rfl (B1.ob) rfl ?_
    repeat (refine R_s kC9 rfl rfl ?_)
    refine R_ild kC9 rfl B1.nc (k := k) rfl hk (by omega) ?_
    refine R_g kC9 rfl ?_
    exact R_ri kC9 rfl ⟨ri_eq (ct.2.1 k hk), b1, f1, B1, bOK.iv (show bOK n S b1 from ⟨ct, ok⟩) hP.2.1⟩
theorem sp_BO_cornerCount (d : Nat) (hP : BP h o fam n S Lm b) : ∃ h', BQ h o fam n S Lm h' ∧ Cl (d + 8) 62 [.ref o] h (some (.int (nI (cornS n S).length))) h' := by
  have kC9 := co_BO_cornerCount
  refine Cl_eH kC9 rfl rfl ?_
  obtain ⟨h1, ⟨b1, f1, B1, ct, ok⟩, cl1⟩ := sp_BO_countNests d hP.1 hP.2.1 hP.2.2.1 hP.2.2.2.2
  repeat (refine R_s kC9 rfl rfl ?_)
  refine R_cv kC9 rfl rfl rfl rfl hP.1.ob hP.1.o3 cl1 ?_
  repeat (refine R_s kC9 rfl rfl ?_)
  refine R_get kC9 rfl (B1.ob) rfl ?_
  exact R_ri kC9 rfl ⟨ri_eq (by rw [ct.2.2]), b1, f1, B1, bOK.iv (show bOK n S b1 from ⟨ct, ok⟩) hP.2.1⟩
theorem sp_BO_isCorner (d : Nat) (hP : BP h o fam n S Lm b) (v : Int32) : ∃ h', BQ h o fam n S Lm h' ∧ Cl (d + 8) 63 [.ref o, .int v] h (some (.int (b2i (itI (cornS n S).length v)))) h' := by
  have kC9 := co_BO_isCorner
  have hN := hP.N
  refine Cl_eH kC9 rfl rfl ?_
  obtain ⟨h1, ⟨b1, f1, B1, ct, ok⟩, cl1⟩ := sp_BO_countNests d hP.1 hP.2.1 hP.2.2.1 hP.2.2.2.2
  have hq : BQ h o fam n S Lm h1 := ⟨b1, f1, B1, bOK.iv (show bOK n S b1 from ⟨ct, ok⟩) hP.2.1⟩
  have en : (nI (cornS n S).length).toInt = ((cornS n S).length : Int) := nI_toInt (by omega)
  repeat (refine R_s kC9 rfl rfl ?_)
  refine R_cv kC9 rfl rfl rfl rfl hP.1.ob hP.1.o3 cl1 ?_
  repeat (refine R_s kC9 rfl rfl ?_)
  refine Zr_lt kC9 rfl (fun hc => ?_) (fun hc => ?_)
  · rw [tI_lt, tI_0] at hc
    repeat (refine R_s kC9 rfl rfl ?_)
    exact R_rz kC9 rfl (Or.inl rfl) ⟨ri_eq (b2i_f (decide_eq_false (by omega))), hq⟩
  · rw [tI_lt, tI_0] at hc
    repeat (refine R_s kC9 rfl rfl ?_)
    refine R_get kC9 rfl (B1.ob) rfl ?_
    rw [ct.2.2]
    refine Rr_ge kC9 rfl (fun hd => ?_) (fun hd => ?_)
    · rw [tI_le] at hd
      repeat (refine R_s kC9 rfl rfl ?_)
      exact R_rz kC9 rfl (Or.inl rfl) ⟨ri_eq (b2i_f (decide_eq_false (by omega))), hq⟩
    · rw [tI_le] at hd
      repeat (refine R_s kC9 rfl rfl ?_)
      refine R_g kC9 rfl ?_
      exact R_rz kC9 rfl (Or.inr rfl) ⟨ri_eq (b2i_t (decide_eq_true (by omega))), hq⟩
theorem sp_BO_standsAt (d : Nat) (hP : BP h o fam n S Lm b) {c p : Nat} (hc : c < (cornS n S).length) (hp : p < n) : ∃ h', BQ h o fam n S Lm h' ∧ Cl (d + 9) 76 [.ref o, .int (nI c), .int (nI p)] h (some (.int (nI (crow n S c p)))) h' := by
  have kC9 := co_BO_standsAt
  have hN := hP.N
  refine Cl_eH kC9 rfl rfl ?_
  obtain ⟨h1, b1, f1, A1, cl1⟩ := hP.arr d
  repeat (refine R_s kC9 rfl rfl ?_)
  refine R_cv kC9 rfl rfl rfl rfl hP.1.ob hP.1.o3 cl1 ?_
  repeat (refine R_s kC9 rfl rfl ?_)
  refine R_get kC9 rfl (A1.1.ob) rfl ?_
  repeat (refine R_s kC9 rfl rfl ?_)
  refine R_ild kC9 rfl A1.1.pl (k := c) rfl (by omega) (by omega) ?_
  rw [A1.pl hc]
  repeat (refine R_s kC9 rfl rfl ?_)
  refine R_cv kC9 rfl rfl rfl rfl A1.1.ob hP.1.o3 (sp_BO_atOf (d + 8) A1.1 hP.2.1.2.1 (rowF_lt n S (crL n S c)) hp) ?_
  exact R_ri kC9 rfl ⟨rfl, b1, f1, A1.1, A1.iv hP.2.1⟩
theorem sp_BO_nestOf (d : Nat) (hP : BP h o fam n S Lm b) {c : Nat} (hc : c < (cornS n S).length) : ∃ h', BQ h o fam n S Lm h' ∧ Cl (d + 9) 77 [.ref o, .int (nI c)] h (some (.int (chM (crL n S c)))) h' := by
  have kC9 := co_BO_nestOf
  have hN := hP.N
  refine Cl_eH kC9 rfl rfl ?_
  obtain ⟨h1, b1, f1, A1, cl1⟩ := hP.arr d
  repeat (refine R_s kC9 rfl rfl ?_)
  refine R_cv kC9 rfl rfl rfl rfl hP.1.ob hP.1.o3 cl1 ?_
  repeat (refine R_s kC9 rfl rfl ?_)
  refine R_get kC9 rfl (A1.1.ob) rfl ?_
  repeat (refine R_s kC9 rfl rfl ?_)
  refine R_ild kC9 rfl A1.1.nr (k := c) rfl (by omega) (by omega) ?_
  rw [A1.nr hc]
  exact R_ri kC9 rfl ⟨rfl, b1, f1, A1.1, A1.iv hP.2.1⟩
theorem sp_BO_flipOf (d : Nat) (hP : BP h o fam n S Lm b) {c j : Nat} (hc : c < (cornS n S).length) (hj : j < n - 1) : ∃ h', BQ h o fam n S Lm h' ∧ Cl (d + 9) 78 [.ref o, .int (nI c), .int (nI j)] h (some (.int (nI (nrN n S c j)))) h' := by
  have kC9 := co_BO_flipOf
  have hN := hP.N
  have hn := hP.2.1.2.1
  refine Cl_eH kC9 rfl rfl ?_
  obtain ⟨h1, b1, f1, A1, cl1⟩ := hP.arr d
  repeat (refine R_s kC9 rfl rfl ?_)
  refine R_cv kC9 rfl rfl rfl rfl hP.1.ob hP.1.o3 cl1 ?_
  repeat (refine R_s kC9 rfl rfl ?_)
  refine R_get kC9 rfl (A1.1.ob) rfl ?_
  repeat (refine R_s kC9 rfl rfl ?_)
  refine R_ild kC9 rfl A1.1.fl (k := 4 * c + j) (show nI c * nI 4 + nI j = _ by rw [pk_mul, nI_add, Nat.mul_comm]) (by omega) (by omega) ?_
  rw [A1.fl hc hj]
  exact R_ri kC9 rfl ⟨rfl, b1, f1, A1.1, A1.iv hP.2.1⟩
theorem sp_BO_worthOf (d : Nat) (hP : BP h o fam n S Lm b) {c : Nat} (hc : c < (cornS n S).length) : ∃ h', BQ h o fam n S Lm h' ∧ Cl (d + 9) 79 [.ref o, .int (nI c)] h (some (.int (nI (worN n S c)))) h' := by
  have kC9 := co_BO_worthOf
  have hN := hP.N
  refine Cl_eH kC9 rfl rfl ?_
  obtain ⟨h1, b1, f1, A1, cl1⟩ := hP.arr d
  repeat (refine R_s kC9 rfl rfl ?_)
  refine R_cv kC9 rfl rfl rfl rfl hP.1.ob hP.1.o3 cl1 ?_
  repeat (refine R_s kC9 rfl rfl ?_)
  refine R_get kC9 rfl (A1.1.ob) rfl ?_
  repeat (refine R_s kC9 rfl rfl ?_)
  refine R_ild kC9 rfl A1.1.wo (k := c) rfl (by omega) (by omega) ?_
  rw [A1.wo hc]
  exact R_ri kC9 rfl ⟨rfl, b1, f1, A1.1, A1.iv hP.2.1⟩
theorem lc_below (d : Nat) (hA : AR h o fam n S Lm b) (hf : Fam n S) (hN : (cornS n S).length ≤ 120) (hfl : flOK n S) {c : Nat} (hc : c < (cornS n S).length) : ∀ (m j : Nat), j + m = n - 1 → R d 81 4 [some (.ref o), some (.int (nI c)), some (.int (nI (cnt (risB n S c) j))), some (.int (nI j))] [] h (fun r2 h2 => r2 = some (.int (nI (cnt (risB n S c) (n - 1)))) ∧ h2 = h) := by
  have kC9 := co_BO_flipsBelow
  have hn := hf.2.1
  have hn2 := hf.1
  intro m
  induction m with
  | zero =>
    intro j hj
    have : j = n - 1 := by omega
    subst this
    repeat (refine R_s kC9 rfl rfl ?_)
    refine R_get kC9 rfl (hA.1.ob) rfl ?_
    refine R_get kC9 rfl (hA.1.fc.2) rfl ?_
    repeat (refine R_s kC9 rfl rfl ?_)
    refine R_ge kC9 rfl rfl (pk_sub (by omega)) (by omega) (by omega) (fun _ => ?_) (fun q => by omega)
    repeat (refine R_s kC9 rfl rfl ?_)
    exact R_ri kC9 rfl ⟨rfl, rfl⟩
  | succ m ih =>
    intro j hj
    have hj1 : j < n - 1 := by omega
    obtain ⟨e1, -⟩ := hfl.at hc hj1
    have w1 := worN_lt hn S (nrN n S c j)
    have w2 := worN_lt hn S c
    repeat (refine R_s kC9 rfl rfl ?_)
    refine R_get kC9 rfl (hA.1.ob) rfl ?_
    refine R_get kC9 rfl (hA.1.fc.2) rfl ?_
    repeat (refine R_s kC9 rfl rfl ?_)
    refine R_ge kC9 rfl rfl (pk_sub (by omega)) (by omega) (by omega) (fun q => by omega) (fun _ => ?_)
    repeat (refine R_s kC9 rfl rfl ?_)
    refine R_get kC9 rfl (hA.1.ob) rfl ?_
    repeat (refine R_s kC9 rfl rfl ?_)
    refine R_get kC9 rfl (hA.1.ob) rfl ?_
    repeat (refine R_s kC9 rfl rfl ?_)
    refine R_ild kC9 rfl hA.1.fl (k := 4 * c + j) (show nI c * nI 4 + nI j = _ by rw [pk_mul, nI_add, Nat.mul_comm]) (by omega) (by omega) ?_
    rw [hA.fl hc hj1]
    refine R_ild kC9 rfl hA.1.wo (k := nrN n S c j) rfl (by omega) (by omega) ?_
    rw [hA.wo e1]
    repeat (refine R_s kC9 rfl rfl ?_)
    refine R_get kC9 rfl (hA.1.ob) rfl ?_
    repeat (refine R_s kC9 rfl rfl ?_)
    refine R_ild kC9 rfl hA.1.wo (k := c) rfl (by omega) (by omega) ?_
    rw [hA.wo hc]
    refine R_ge kC9 rfl rfl rfl w1 w2 (fun hd => ?_) (fun hd => ?_)
    · repeat (refine R_s kC9 rfl rfl ?_)
      refine R_g kC9 rfl ?_
      refine (show R d 81 4 [some (.ref o), some (.int (nI c)), some (.int (nI (cnt (risB n S c) j))), some (.int (nI j + nI 1))] [] h _ from ?_)
      have := ih (j + 1) (by omega)
      rw [cnt_succ, show risB n S c j = false from decide_eq_false (by omega)] at this
      rw [nI_add]
      exact this
    · repeat (refine R_s kC9 rfl rfl ?_)
      refine R_g kC9 rfl ?_
      refine (show R d 81 4 [some (.ref o), some (.int (nI c)), some (.int (nI (cnt (risB n S c) j) + nI 1)), some (.int (nI j + nI 1))] [] h _ from ?_)
      have := ih (j + 1) (by omega)
      rw [cnt_succ, show risB n S c j = true from decide_eq_true (by omega)] at this
      rw [nI_add, nI_add]
      exact this
theorem sp_BO_flipsBelow (d : Nat) (hA : AR h o fam n S Lm b) (hf : Fam n S) (hN : (cornS n S).length ≤ 120) (hfl : flOK n S) {c : Nat} (hc : c < (cornS n S).length) : Cl d 81 [.ref o, .int (nI c)] h (some (.int (nI (cnt (risB n S c) (n - 1))))) h := by
  have kC9 := co_BO_flipsBelow
  refine Cl_of kC9 rfl rfl ?_
  iterate 4 (refine R_s kC9 rfl rfl ?_)
  exact lc_below d hA hf hN hfl hc (n - 1) 0 (by omega)
theorem sp_BO_risesOf (d : Nat) (hP : BP h o fam n S Lm b) {c : Nat} (hc : c < (cornS n S).length) : ∃ h', BQ h o fam n S Lm h' ∧ Cl (d + 9) 80 [.ref o, .int (nI c)] h (some (.int (nI (cnt (risB n S c) (n - 1))))) h' := by
  have kC9 := co_BO_risesOf
  refine Cl_eH kC9 rfl rfl ?_
  obtain ⟨h1, b1, f1, A1, cl1⟩ := hP.arr d
  repeat (refine R_s kC9 rfl rfl ?_)
  refine R_cv kC9 rfl rfl rfl rfl hP.1.ob hP.1.o3 cl1 ?_
  repeat (refine R_s kC9 rfl rfl ?_)
  refine R_cv kC9 rfl rfl rfl rfl A1.1.ob hP.1.o3 (sp_BO_flipsBelow (d + 8) A1 hP.2.1 hP.N hP.2.2.2.1.1 hc) ?_
  exact R_ri kC9 rfl ⟨rfl, b1, f1, A1.1, A1.iv hP.2.1⟩
theorem lc_risen (d : Nat) (hA : AR h o fam n S Lm b) (hf : Fam n S) (hN : (cornS n S).length ≤ 120) (hfl : flOK n S) (v : Int32) : ∀ (m c : Nat), c + m = (cornS n S).length → R (d + 1) 82 6 [some (.ref o), some (.int v), some (.int (nI (cnt (risenB n S v) c))), some (.int (nI c))] [] h (fun r2 h2 => r2 = some (.int (nI (cnt (risenB n S v) (cornS n S).length))) ∧ h2 = h) := by
  have kC9 := co_BO_countRisen
  intro m
  induction m with
  | zero =>
    intro c hc
    have : c = (cornS n S).length := by omega
    subst this
    repeat (refine R_s kC9 rfl rfl ?_)
    refine R_get kC9 rfl (hA.1.ob) rfl ?_
    rw [hA.co]
    refine R_ge kC9 rfl (rfl) (rfl) (by omega) (by omega) (fun hc => ?_) (fun hc => ?_)
    · repeat (refine R_s kC9 rfl rfl ?_)
      exact R_ri kC9 rfl ⟨rfl, rfl⟩
    · omega
  | succ m ih =>
    intro c hc
    repeat (refine R_s kC9 rfl rfl ?_)
    refine R_get kC9 rfl (hA.1.ob) rfl ?_
    rw [hA.co]
    refine R_ge kC9 rfl (rfl) (rfl) (by omega) (by omega) (fun hc => ?_) (fun hc => ?_)
    · omega
    · repeat (refine R_s kC9 rfl rfl ?_)
      refine R_cv kC9 rfl rfl rfl rfl hA.1.ob hA.1.o3 (sp_BO_flipsBelow d hA hf hN hfl (by omega)) ?_
      repeat (refine R_s kC9 rfl rfl ?_)
      refine Rr_ne kC9 rfl (fun hd => ?_) (fun hd => ?_)
      · repeat (refine R_s kC9 rfl rfl ?_)
        refine R_g kC9 rfl ?_
        refine (show R (d + 1) 82 6 [some (.ref o), some (.int v), some (.int (nI (cnt (risenB n S v) c))), some (.int (nI c + nI 1))] [] h _ from ?_)
        have := ih (c + 1) (by omega)
        rw [cnt_succ, show risenB n S v c = false from decide_eq_false hd] at this
        rw [nI_add]
        exact this
      · repeat (refine R_s kC9 rfl rfl ?_)
        refine R_g kC9 rfl ?_
        refine (show R (d + 1) 82 6 [some (.ref o), some (.int v), some (.int (nI (cnt (risenB n S v) c) + nI 1)), some (.int (nI c + nI 1))] [] h _ from ?_)
        have := ih (c + 1) (by omega)
        rw [cnt_succ, show risenB n S v c = true from decide_eq_true hd] at this
        rw [nI_add, nI_add]
        exact this
theorem sp_BO_countRisen (d : Nat) (hP : BP h o fam n S Lm b) (v : Int32) : ∃ h', BQ h o fam n S Lm h' ∧ Cl (d + 9) 82 [.ref o, .int v] h (some (.int (nI (cnt (risenB n S v) (cornS n S).length)))) h' := by
  have kC9 := co_BO_countRisen
  refine Cl_eH kC9 rfl rfl ?_
  obtain ⟨h1, b1, f1, A1, cl1⟩ := hP.arr d
  repeat (refine R_s kC9 rfl rfl ?_)
  refine R_cv kC9 rfl rfl rfl rfl hP.1.ob hP.1.o3 cl1 ?_
  iterate 4 (refine R_s kC9 rfl rfl ?_)
  obtain ⟨m, r, h2, hr, e1, e2⟩ := lc_risen (d + 8) A1 hP.2.1 hP.N hP.2.2.2.1.1 v _ 0 (Nat.zero_add _)
  exact ⟨m, r, h2, hr, e1, b1, by rw [e2]; exact f1, by rw [e2]; exact A1.1, A1.iv hP.2.1⟩
theorem lc_countOn (d : Nat) (hA : AR h o fam n S Lm b) (hN : (cornS n S).length ≤ 120) (A : Int32) : ∀ (m c : Nat), c + m = (cornS n S).length → R d 87 6 [some (.ref o), some (.int A), some (.int (nI (hvN A ((cornM n S).take c)))), some (.int (nI c))] [] h (fun r2 h2 => r2 = some (.int (nI (hvN A (cornM n S)))) ∧ h2 = h) := by
  have kC9 := co_BO_countOn
  have hvs : ∀ (l : List Int32) (x : Int32), hvN A (l ++ [x]) = hvN A l + (decide (x &&& A = A)).toNat := by
    intro l x
    induction l with
    | nil => show _ + 0 = 0 + _; omega
    | cons y l ih => rw [List.cons_append, hvN_cons, hvN_cons, ih]; omega
  intro m
  induction m with
  | zero =>
    intro c hc
    rw [List.take_of_length_le (by rw [cornM_len]; omega)]
    repeat (refine R_s kC9 rfl rfl ?_)
    refine R_get kC9 rfl (hA.1.ob) rfl ?_
    rw [hA.co]
    refine R_ge kC9 rfl (rfl) (rfl) (by omega) (by omega) (fun hc => ?_) (fun hc => ?_)
    · repeat (refine R_s kC9 rfl rfl ?_)
      exact R_ri kC9 rfl ⟨rfl, rfl⟩
    · omega
  | succ m ih =>
    intro c hc
    have hg : (cornM n S)[c]? = some (chM (crL n S c)) := by
      unfold cornM
      rw [List.getElem?_map, crL_get (by omega)]
      rfl
    have ih1 := ih (c + 1) (by omega)
    rw [List.take_succ, hg, Option.toList_some, hvs] at ih1
    repeat (refine R_s kC9 rfl rfl ?_)
    refine R_get kC9 rfl (hA.1.ob) rfl ?_
    rw [hA.co]
    refine R_ge kC9 rfl (rfl) (rfl) (by omega) (by omega) (fun hc => ?_) (fun hc => ?_)
    · omega
    · repeat (refine R_s kC9 rfl rfl ?_)
      refine R_get kC9 rfl (hA.1.ob) rfl ?_
      repeat (refine R_s kC9 rfl rfl ?_)
      refine R_ild kC9 rfl hA.1.nr (k := c) rfl (by omega) (by omega) ?_
      rw [hA.nr (by omega)]
      repeat (refine R_s kC9 rfl rfl ?_)
      refine Rr_ne kC9 rfl (fun hd => ?_) (fun hd => ?_)
      · repeat (refine R_s kC9 rfl rfl ?_)
        refine R_g kC9 rfl ?_
        refine (show R d 87 6 [some (.ref o), some (.int A), some (.int (nI (hvN A ((cornM n S).take c)))), some (.int (nI c + nI 1))] [] h _ from ?_)
        rw [decide_eq_false hd] at ih1
        rw [nI_add]
        exact ih1
      · repeat (refine R_s kC9 rfl rfl ?_)
        refine R_g kC9 rfl ?_
        refine (show R d 87 6 [some (.ref o), some (.int A), some (.int (nI (hvN A ((cornM n S).take c)) + nI 1)), some (.int (nI c + nI 1))] [] h _ from ?_)
        rw [decide_eq_true hd] at ih1
        rw [nI_add, nI_add]
        exact ih1
theorem sp_BO_countOn (d : Nat) (hP : BP h o fam n S Lm b) (A : Int32) : ∃ h', BQ h o fam n S Lm h' ∧ Cl (d + 9) 87 [.ref o, .int A] h (some (.int (nI (hvN A (cornM n S))))) h' := by
  have kC9 := co_BO_countOn
  refine Cl_eH kC9 rfl rfl ?_
  obtain ⟨h1, b1, f1, A1, cl1⟩ := hP.arr d
  repeat (refine R_s kC9 rfl rfl ?_)
  refine R_cv kC9 rfl rfl rfl rfl hP.1.ob hP.1.o3 cl1 ?_
  iterate 4 (refine R_s kC9 rfl rfl ?_)
  obtain ⟨m, r, h2, hr, e1, e2⟩ := lc_countOn (d + 9) A1 hP.N A _ 0 (Nat.zero_add _)
  exact ⟨m, r, h2, hr, e1, b1, by rw [e2]; exact f1, by rw [e2]; exact A1.1, A1.iv hP.2.1⟩
theorem lc_firstOn (d : Nat) (hA : AR h o fam n S Lm b) (hN : (cornS n S).length ≤ 120) (A : Int32) : ∀ (m c : Nat), c + m = (cornS n S).length → R d 88 4 [some (.ref o), some (.int A), some (.int (nI c))] [] h (fun r2 h2 => r2 = some (.int (optI (hvF A ((cornM n S).drop c) c))) ∧ h2 = h) := by
  have kC9 := co_BO_firstOn
  intro m
  induction m with
  | zero =>
    intro c hc
    rw [List.drop_eq_nil_of_le (by rw [cornM_len]; omega)]
    repeat (refine R_s kC9 rfl rfl ?_)
    refine R_get kC9 rfl (hA.1.ob) rfl ?_
    rw [hA.co]
    refine R_ge kC9 rfl (rfl) (rfl) (by omega) (by omega) (fun hc => ?_) (fun hc => ?_)
    · repeat (refine R_s kC9 rfl rfl ?_)
      exact R_ri kC9 rfl ⟨rfl, rfl⟩
    · omega
  | succ m ih =>
    intro c hc
    have hg : (cornM n S)[c]? = some (chM (crL n S c)) := by
      unfold cornM
      rw [List.getElem?_map, crL_get (by omega)]
      rfl
    have ih1 := ih (c + 1) (by omega)
    rw [drop_cons hg, hvF_cons]
    repeat (refine R_s kC9 rfl rfl ?_)
    refine R_get kC9 rfl (hA.1.ob) rfl ?_
    rw [hA.co]
    refine R_ge kC9 rfl (rfl) (rfl) (by omega) (by omega) (fun hc => ?_) (fun hc => ?_)
    · omega
    · repeat (refine R_s kC9 rfl rfl ?_)
      refine R_get kC9 rfl (hA.1.ob) rfl ?_
      repeat (refine R_s kC9 rfl rfl ?_)
      refine R_ild kC9 rfl hA.1.nr (k := c) rfl (by omega) (by omega) ?_
      rw [hA.nr (by omega)]
      repeat (refine R_s kC9 rfl rfl ?_)
      refine Rr_ne kC9 rfl (fun hd => ?_) (fun hd => ?_)
      · rw [if_neg hd]
        repeat (refine R_s kC9 rfl rfl ?_)
        refine R_g kC9 rfl ?_
        refine (show R d 88 4 [some (.ref o), some (.int A), some (.int (nI c + nI 1))] [] h _ from ?_)
        rw [nI_add]
        exact ih1
      · rw [if_pos hd]
        repeat (refine R_s kC9 rfl rfl ?_)
        exact R_ri kC9 rfl ⟨rfl, rfl⟩
theorem sp_BO_firstOn (d : Nat) (hP : BP h o fam n S Lm b) (A : Int32) : ∃ h', BQ h o fam n S Lm h' ∧ Cl (d + 9) 88 [.ref o, .int A] h (some (.int (optI (hvF A (cornM n S) 0)))) h' := by
  have kC9 := co_BO_firstOn
  refine Cl_eH kC9 rfl rfl ?_
  obtain ⟨h1, b1, f1, A1, cl1⟩ := hP.arr d
  repeat (refine R_s kC9 rfl rfl ?_)
  refine R_cv kC9 rfl rfl rfl rfl hP.1.ob hP.1.o3 cl1 ?_
  iterate 2 (refine R_s kC9 rfl rfl ?_)
  obtain ⟨m, r, h2, hr, e1, e2⟩ := lc_firstOn (d + 9) A1 hP.N A _ 0 (Nat.zero_add _)
  exact ⟨m, r, h2, hr, e1, b1, by rw [e2]; exact f1, by rw [e2]; exact A1.1, A1.iv hP.2.1⟩
theorem lc_cornerAt (d : Nat) (hA : AR h o fam n S Lm b) (hN : (cornS n S).length ≤ 120) (v : Int32) : ∀ (m c : Nat), c + m = (cornS n S).length → R d 89 4 [some (.ref o), some (.int v), some (.int (nI c))] [] h (fun r2 h2 => r2 = some (.int (optI (ldF (fun q => decide (nI (pkN (crow n S q) n) = v)) m c))) ∧ h2 = h) := by
  have kC9 := co_BO_cornerAt
  intro m
  induction m with
  | zero =>
    intro c hc
    repeat (refine R_s kC9 rfl rfl ?_)
    refine R_get kC9 rfl (hA.1.ob) rfl ?_
    rw [hA.co]
    refine R_ge kC9 rfl (rfl) (rfl) (by omega) (by omega) (fun hc => ?_) (fun hc => ?_)
    · repeat (refine R_s kC9 rfl rfl ?_)
      exact R_ri kC9 rfl ⟨rfl, rfl⟩
    · omega
  | succ m ih =>
    intro c hc
    have ih1 := ih (c + 1) (by omega)
    have e : ldF (fun q => decide (nI (pkN (crow n S q) n) = v)) (m + 1) c = if decide (nI (pkN (crow n S c) n) = v) = true then some c else ldF (fun q => decide (nI (pkN (crow n S q) n) = v)) m (c + 1) := rfl
    rw [e]
    repeat (refine R_s kC9 rfl rfl ?_)
    refine R_get kC9 rfl (hA.1.ob) rfl ?_
    rw [hA.co]
    refine R_ge kC9 rfl (rfl) (rfl) (by omega) (by omega) (fun hc => ?_) (fun hc => ?_)
    · omega
    · repeat (refine R_s kC9 rfl rfl ?_)
      refine R_get kC9 rfl (hA.1.ob) rfl ?_
      repeat (refine R_s kC9 rfl rfl ?_)
      refine R_ild kC9 rfl hA.1.pl (k := c) rfl (by omega) (by omega) ?_
      rw [hA.pl (by omega)]
      repeat (refine R_s kC9 rfl rfl ?_)
      refine Rr_ne kC9 rfl (fun hd => ?_) (fun hd => ?_)
      · rw [if_neg (by rw [decide_eq_false hd]; decide)]
        repeat (refine R_s kC9 rfl rfl ?_)
        refine R_g kC9 rfl ?_
        refine (show R d 89 4 [some (.ref o), some (.int v), some (.int (nI c + nI 1))] [] h _ from ?_)
        rw [nI_add]
        exact ih1
      · rw [if_pos (decide_eq_true hd)]
        repeat (refine R_s kC9 rfl rfl ?_)
        exact R_ri kC9 rfl ⟨rfl, rfl⟩
theorem sp_BO_cornerAt (d : Nat) (hP : BP h o fam n S Lm b) (v : Int32) : ∃ h', BQ h o fam n S Lm h' ∧ Cl (d + 9) 89 [.ref o, .int v] h (some (.int (optI (ldF (fun q => decide (nI (pkN (crow n S q) n) = v)) (cornS n S).length 0)))) h' := by
  have kC9 := co_BO_cornerAt
  refine Cl_eH kC9 rfl rfl ?_
  obtain ⟨h1, b1, f1, A1, cl1⟩ := hP.arr d
  repeat (refine R_s kC9 rfl rfl ?_)
  refine R_cv kC9 rfl rfl rfl rfl hP.1.ob hP.1.o3 cl1 ?_
  iterate 2 (refine R_s kC9 rfl rfl ?_)
  obtain ⟨m, r, h2, hr, e1, e2⟩ := lc_cornerAt (d + 9) A1 hP.N v _ 0 (Nat.zero_add _)
  exact ⟨m, r, h2, hr, e1, b1, by rw [e2]; exact f1, by rw [e2]; exact A1.1, A1.iv hP.2.1⟩
theorem lc_sumAt (d : Nat) (hA : AR h o fam n S Lm b) (hn : n ≤ 5) (hN : (cornS n S).length ≤ 120) {p : Nat} (hp : p < n) : ∀ (m c : Nat), c + m = (cornS n S).length → R (d + 1) 90 6 [some (.ref o), some (.int (nI p)), some (.int (nI (smF (fun q => crow n S q p) c))), some (.int (nI c))] [] h (fun r2 h2 => r2 = some (.int (nI (smF (fun q => crow n S q p) (cornS n S).length))) ∧ h2 = h) := by
  have kC9 := co_BO_sumAt
  intro m
  induction m with
  | zero =>
    intro c hc
    have : c = (cornS n S).length := by omega
    subst this
    repeat (refine R_s kC9 rfl rfl ?_)
    refine R_get kC9 rfl (hA.1.ob) rfl ?_
    rw [hA.co]
    refine R_ge kC9 rfl (rfl) (rfl) (by omega) (by omega) (fun hc => ?_) (fun hc => ?_)
    · repeat (refine R_s kC9 rfl rfl ?_)
      exact R_ri kC9 rfl ⟨rfl, rfl⟩
    · omega
  | succ m ih =>
    intro c hc
    have ih1 := ih (c + 1) (by omega)
    repeat (refine R_s kC9 rfl rfl ?_)
    refine R_get kC9 rfl (hA.1.ob) rfl ?_
    rw [hA.co]
    refine R_ge kC9 rfl (rfl) (rfl) (by omega) (by omega) (fun hc => ?_) (fun hc => ?_)
    · omega
    · repeat (refine R_s kC9 rfl rfl ?_)
      refine R_get kC9 rfl (hA.1.ob) rfl ?_
      repeat (refine R_s kC9 rfl rfl ?_)
      refine R_ild kC9 rfl hA.1.pl (k := c) rfl (by omega) (by omega) ?_
      rw [hA.pl (by omega)]
      repeat (refine R_s kC9 rfl rfl ?_)
      refine R_cv kC9 rfl rfl rfl rfl hA.1.ob hA.1.o3 (sp_BO_atOf d hA.1 hn (rowF_lt n S (crL n S c)) hp) ?_
      repeat (refine R_s kC9 rfl rfl ?_)
      refine R_g kC9 rfl ?_
      refine (show R (d + 1) 90 6 [some (.ref o), some (.int (nI p)), some (.int (nI (smF (fun q => crow n S q p) c) + nI (crow n S c p))), some (.int (nI c + nI 1))] [] h _ from ?_)
      rw [nI_add, nI_add]
      exact ih1
theorem sp_BO_sumAt (d : Nat) (hP : BP h o fam n S Lm b) {p : Nat} (hp : p < n) : ∃ h', BQ h o fam n S Lm h' ∧ Cl (d + 9) 90 [.ref o, .int (nI p)] h (some (.int (nI (smF (fun q => crow n S q p) (cornS n S).length)))) h' := by
  have kC9 := co_BO_sumAt
  refine Cl_eH kC9 rfl rfl ?_
  obtain ⟨h1, b1, f1, A1, cl1⟩ := hP.arr d
  repeat (refine R_s kC9 rfl rfl ?_)
  refine R_cv kC9 rfl rfl rfl rfl hP.1.ob hP.1.o3 cl1 ?_
  iterate 4 (refine R_s kC9 rfl rfl ?_)
  obtain ⟨m, r, h2, hr, e1, e2⟩ := lc_sumAt (d + 8) A1 hP.2.1.2.1 hP.N hp _ 0 (Nat.zero_add _)
  exact ⟨m, r, h2, hr, e1, b1, by rw [e2]; exact f1, by rw [e2]; exact A1.1, A1.iv hP.2.1⟩
end
