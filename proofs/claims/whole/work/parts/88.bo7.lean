/-! THE CLASS, 18: Body: arrange -/
section
variable {h h' : AH} {o fam n : Nat} {S Lm : Int32} {b : BoS}
theorem lc_flipA (d : Nat) (hn : n ≤ 5) (hn2 : 2 ≤ n) (hU : flU n S) (hN120 : (cornS n S).length ≤ 120) (hco : b.co = (cornS n S).length) (hNr : ∀ c, c < (cornS n S).length → b.Nr c = chM (crL n S c)) : ∀ (m a : Nat) (h2 : AH) (F : NF) (w2 w : Option Value), a + m = (cornS n S).length → ((w2 = none ∨ ∃ x : Int32, w2 = some (.int x)) ∧ (w = none ∨ ∃ x : Int32, w = some (.int x))) → frI o (o + 13) h h2 → BX h2 o fam n S Lm (b.sFl F) → FlI n S F a 0 → R (d + 2) 74 2 [some (.ref o), some (.int (nI a)), w2, w] [] h2 (fun r2 h3 => r2 = none ∧ ∃ F3, frI o (o + 13) h h3 ∧ BX h3 o fam n S Lm (b.sFl F3) ∧ ∀ c j, c < (cornS n S).length → j < n - 1 → F3 (4 * c + j) = nI (nrN n S c j)) := by
  have kC9 := co_BO_findFlips
  intro m
  induction m with
  | zero =>
    intro a h2 F w2 w ha hw hf hB hI
    have eco : (b.sFl F).co = (cornS n S).length := hco
    repeat (refine R_s kC9 rfl rfl ?_)
    refine R_get kC9 rfl (hB.ob) rfl ?_
    rw [eco]
    refine R_ge kC9 rfl (rfl) (rfl) (by omega) (by omega) (fun hc => ?_) (fun hc => ?_)
    · refine R_rv kC9 rfl ⟨rfl, F, hf, hB, fun c j hc hj => hI c j hc hj (Or.inl ?_)⟩
      have := (hU.1.at hc hj).1
      omega
    · omega
  | succ m ih =>
    intro a h2 F w2 w ha hw hf hB hI
    have eco : (b.sFl F).co = (cornS n S).length := hco
    have body : R (d + 2) 74 8 [some (.ref o), some (.int (nI a)), some (.int (nI 0)), w] [] h2 (fun r2 h3 => r2 = none ∧ ∃ F3, frI o (o + 13) h h3 ∧ BX h3 o fam n S Lm (b.sFl F3) ∧ ∀ c j, c < (cornS n S).length → j < n - 1 → F3 (4 * c + j) = nI (nrN n S c j)) := by
      refine lc_flipB (h := h) (b := b) d _ hn hn2 hU hN120 (by omega) hNr (fun h3 F3 w3 w3k q1 q2 q3 => ?_) a 0 h2 F w (by omega) hw.2 hf hB hI
      repeat (refine R_s kC9 rfl rfl ?_)
      refine R_g kC9 rfl ?_
      refine (show R (d + 2) 74 2 [some (.ref o), some (.int (nI a + nI 1)), some (.int (nI a)), w3] [] h3 _ from ?_)
      rw [nI_add]
      exact ih (a + 1) h3 F3 _ w3 (by omega) ⟨Or.inr ⟨_, rfl⟩, w3k⟩ q1 q2 q3
    repeat (refine R_s kC9 rfl rfl ?_)
    refine R_get kC9 rfl (hB.ob) rfl ?_
    rw [eco]
    refine R_ge kC9 rfl (rfl) (rfl) (by omega) (by omega) (fun hc => ?_) (fun hc => ?_)
    · omega
    · obtain ⟨hw2, hw3⟩ := hw
      rcases hw2 with rfl | ⟨x, rfl⟩
      · iterate 2 (refine R_s kC9 rfl rfl ?_)
        exact body
      · iterate 2 (refine R_s kC9 rfl rfl ?_)
        exact body
theorem sp_BO_findFlips (d : Nat) (hB : BX h o fam n S Lm b) (hn : n ≤ 5) (hn2 : 2 ≤ n) (hU : flU n S) (hN120 : (cornS n S).length ≤ 120) (hco : b.co = (cornS n S).length) (hNr : ∀ c, c < (cornS n S).length → b.Nr c = chM (crL n S c)) : ∃ h', (∃ F3, frI o (o + 13) h h' ∧ BX h' o fam n S Lm (b.sFl F3) ∧ ∀ c j, c < (cornS n S).length → j < n - 1 → F3 (4 * c + j) = nI (nrN n S c j)) ∧ Cl (d + 2) 74 [.ref o] h none h' := by
  have kC9 := co_BO_findFlips
  refine Cl_eH kC9 rfl rfl ?_
  iterate 2 (refine R_s kC9 rfl rfl ?_)
  exact lc_flipA (h := h) (b := b) d hn hn2 hU hN120 hco hNr _ 0 h b.Fl none none (Nat.zero_add _) ⟨Or.inl rfl, Or.inl rfl⟩ (frI.refl _ _ _) hB (fun u j hu hj hp => by omega)
theorem lc_arrA (d : Nat) (Q : Option Value → AH → Prop) (hn : n ≤ 5) (hn2 : 2 ≤ n) (hb0 : bt S 0 = false) (hN120 : (cornS n S).length ≤ 120) (hco : b.co = (cornS n S).length) (kk : ∀ (h2 : AH) (b2 : BoS) (w : Int32), frI o (o + 13) h h2 → BX h2 o fam n S Lm b2 → (∃ F G, b2 = (b.sNr F).sPl G) → SR n S b2 0 (cornS n S) → R (d + 4) 68 30 [some (.ref o), some (.int w)] [] h2 Q) : ∀ (m c : Nat) (h2 : AH) (b2 : BoS), c + m = (cornS n S).length → frI o (o + 13) h h2 → BX h2 o fam n S Lm b2 → (∃ F G, b2 = (b.sNr F).sPl G) → SR n S b2 0 (srtR n S ((corL n (allN n S)).take c) []).reverse → (∀ i x, c ≤ i → (corL n (allN n S))[i]? = some x → b2.Nr i = chM x) → R (d + 4) 68 11 [some (.ref o), some (.int (nI c))] [] h2 Q := by
  have kC9 := co_BO_arrange
  have hlen := cornS_len n S
  intro m
  induction m with
  | zero =>
    intro c h2 b2 hc hf hB he hS hr
    have eco : b2.co = (cornS n S).length := by obtain ⟨F, G, rfl⟩ := he; exact hco
    repeat (refine R_s kC9 rfl rfl ?_)
    refine R_get kC9 rfl (hB.ob) rfl ?_
    rw [eco]
    refine R_ge kC9 rfl (rfl) (rfl) (by omega) (by omega) (fun hc => ?_) (fun hc => ?_)
    · refine kk h2 b2 _ hf hB he ?_
      rw [List.take_of_length_le (by omega)] at hS
      exact hS
    · omega
  | succ m ih =>
    intro c h2 b2 hc hf hB he hS hr
    have eco : b2.co = (cornS n S).length := by obtain ⟨F, G, rfl⟩ := he; exact hco
    have hx : (corL n (allN n S))[c]? = some ((corL n (allN n S))[c]) := List.getElem?_eq_getElem (by omega)
    generalize (corL n (allN n S))[c] = x at hx
    have hxm : x ∈ corL n (allN n S) := List.mem_of_getElem? hx
    have hxa := (List.mem_filter.mp hxm).1
    have hok := allN_ok hn2 hxa
    have hy : lamL n x := ⟨hok.1, allN_lam hxa, fun t ht => ⟨(hok.2.1 t ht).1, (hok.2.1 t ht).2.1⟩⟩
    have eN := hr c x (Nat.le_refl c) hx
    repeat (refine R_s kC9 rfl rfl ?_)
    refine R_get kC9 rfl (hB.ob) rfl ?_
    rw [eco]
    refine R_ge kC9 rfl (rfl) (rfl) (by omega) (by omega) (fun hc => ?_) (fun hc => ?_)
    · omega
    · repeat (refine R_s kC9 rfl rfl ?_)
      refine R_get kC9 rfl (hB.ob) rfl ?_
      repeat (refine R_s kC9 rfl rfl ?_)
      refine R_ild kC9 rfl hB.nr (k := c) rfl (by omega) (by omega) ?_
      repeat (refine R_s kC9 rfl rfl ?_)
      refine R_get kC9 rfl (hB.ob) rfl ?_
      repeat (refine R_s kC9 rfl rfl ?_)
      refine R_ild kC9 rfl hB.nr (k := c) rfl (by omega) (by omega) ?_
      rw [eN]
      refine R_cv kC9 rfl rfl rfl rfl hB.ob hB.o3 (sp_BO_placeOf d hB hn hb0 hy) ?_
      obtain ⟨h3, ⟨b3, q1, q2, q3, q4, q5⟩, hcl⟩ := sp_BO_insert (d + 3) hn x (c := c) (by omega) hB (by rw [List.length_reverse, srtR_len, List.length_take]; simp; omega) hS
      refine R_cv kC9 rfl rfl rfl rfl hB.ob hB.o3 hcl ?_
      repeat (refine R_s kC9 rfl rfl ?_)
      refine R_g kC9 rfl ?_
      refine (show R (d + 4) 68 11 [some (.ref o), some (.int (nI c + nI 1))] [] h3 Q from ?_)
      rw [nI_add]
      refine ih (c + 1) h3 b3 (by omega) (hf.trans q1) q2 ?_ ?_ (fun i z hi hz => ?_)
      · obtain ⟨F, G, rfl⟩ := he
        obtain ⟨F2, G2, rfl⟩ := q3
        exact ⟨F2, G2, rfl⟩
      · rw [List.take_succ, hx, Option.toList_some, srtR_snoc]
        rw [List.reverse_reverse] at q4
        exact q4
      · rw [q5 i (by omega)]
        exact hr i z (by omega) hz
theorem lc_arrB (d : Nat) (Q : Option Value → AH → Prop) (hn : n ≤ 5) (hN120 : (cornS n S).length ≤ 120) (hco : b.co = (cornS n S).length) (hS : SR n S b 0 (cornS n S)) (kk : ∀ (h2 : AH) (F : NF) (w : Int32), frI o (o + 13) h h2 → BX h2 o fam n S Lm (b.sWo F) → (∀ c, c < (cornS n S).length → F c = nI (worN n S c)) → R (d + 2) 68 48 [some (.ref o), some (.int w)] [] h2 Q) : ∀ (m c : Nat) (h2 : AH) (F : NF), c + m = (cornS n S).length → frI o (o + 13) h h2 → BX h2 o fam n S Lm (b.sWo F) → (∀ q, q < c → F q = nI (worN n S q)) → R (d + 2) 68 32 [some (.ref o), some (.int (nI c))] [] h2 Q := by
  have kC9 := co_BO_arrange
  intro m
  induction m with
  | zero =>
    intro c h2 F hc hf hB hF
    have eco : (b.sWo F).co = (cornS n S).length := hco
    repeat (refine R_s kC9 rfl rfl ?_)
    refine R_get kC9 rfl (hB.ob) rfl ?_
    rw [eco]
    refine R_ge kC9 rfl (rfl) (rfl) (by omega) (by omega) (fun hc => ?_) (fun hc => ?_)
    · exact kk h2 F _ hf hB (fun q hq => hF q (by omega))
    · omega
  | succ m ih =>
    intro c h2 F hc hf hB hF
    have eco : (b.sWo F).co = (cornS n S).length := hco
    have o3 := hB.o3
    have hg := crL_get (n := n) (S := S) (c := c) (by omega)
    have hP := (hS c _ hg).2
    rw [Nat.zero_add] at hP
    repeat (refine R_s kC9 rfl rfl ?_)
    refine R_get kC9 rfl (hB.ob) rfl ?_
    rw [eco]
    refine R_ge kC9 rfl (rfl) (rfl) (by omega) (by omega) (fun hc => ?_) (fun hc => ?_)
    · omega
    · repeat (refine R_s kC9 rfl rfl ?_)
      refine R_get kC9 rfl (hB.ob) rfl ?_
      repeat (refine R_s kC9 rfl rfl ?_)
      refine R_get kC9 rfl (hB.ob) rfl ?_
      repeat (refine R_s kC9 rfl rfl ?_)
      refine R_ild kC9 rfl hB.pl (k := c) rfl (by omega) (by omega) ?_
      rw [show (b.sWo F).Pl c = nI (pkN (rowF n S (crL n S c)) n) from hP]
      refine R_cv kC9 rfl rfl rfl rfl hB.ob o3 (sp_BO_worthAt d hB hn (rowF_lt n S (crL n S c))) ?_
      refine R_ist kC9 rfl hB.wo (by omega) (k := c) rfl (by omega) (by omega) ?_
      repeat (refine R_s kC9 rfl rfl ?_)
      refine R_g kC9 rfl ?_
      refine (show R (d + 2) 68 32 [some (.ref o), some (.int (nI c + nI 1))] [] (upH h2 (o + 5) (ints 120 (upd F c (nI (wS (rowF n S (crL n S c)) n))))) Q from ?_)
      rw [nI_add]
      refine ih (c + 1) _ (upd F c (nI (wS (rowF n S (crL n S c)) n))) (by omega) (hf.up _ (by omega) (by omega)) (hB.uwo _) (fun q hq => ?_)
      by_cases e : q = c
      · rw [e, pk_us]; rfl
      · rw [pk_un e]; exact hF q (by omega)
theorem sp_BO_arrange (d : Nat) (hB : BX h o fam n S Lm b) (hf : Fam n S) (hb : c120 n S) (hU : flU n S) (hI : bIv b) : ∃ h', (∃ b', frI o (o + 13) h h' ∧ BX h' o fam n S Lm b' ∧ bCt n S b' ∧ bA1 n S b') ∧ Cl (d + 8) 68 [.ref o] h none h' := by
  have kC9 := co_BO_arrange
  have hn := hf.2.1
  have hn2 := hf.1
  have o3 := hB.o3
  have hN120 : (cornS n S).length ≤ 120 := by rw [cornS_len]; exact hb
  refine Cl_eH kC9 rfl rfl ?_
  obtain ⟨h1, ⟨b1, f1, B1, ct, ok⟩, cl1⟩ := sp_BO_countNests d hB hf hb hI
  repeat (refine R_s kC9 rfl rfl ?_)
  refine R_cv kC9 rfl rfl rfl rfl hB.ob o3 cl1 ?_
  repeat (refine R_s kC9 rfl rfl ?_)
  refine R_get kC9 rfl (B1.ob) rfl ?_
  rcases ok with ok | ok
  · rw [ok.1]
    refine Zr_eq kC9 rfl (fun _ => ?_) (fun q => absurd rfl q)
    repeat (refine R_s kC9 rfl rfl ?_)
    refine R_put kC9 rfl B1.ob o3 (Nat.le_of_ble_eq_true rfl) rfl ?_
    have B2 := B1.uob b1.bs 1 b1.fa b1.co
    refine (show R (d + 8) 68 9 [some (.ref o), none] [] (upH h1 o (bob o fam b1.bs 1 b1.fa (nI b1.co))) _ from ?_)
    have f2 : frI o (o + 13) h (upH h1 o (bob o fam b1.bs 1 b1.fa (nI b1.co))) := f1.up _ (by omega) (by omega)
    iterate 2 (refine R_s kC9 rfl rfl ?_)
    refine lc_arrA (h := upH h1 o (bob o fam b1.bs 1 b1.fa (nI b1.co))) (b := b1.sO b1.bs 1 b1.fa b1.co) (fam := fam) (n := n) (S := S) (Lm := Lm) (d + 4) _ hn hn2 hf.b0 hN120 ct.2.2 (fun h3 b3 w q1 q2 q3 q4 => ?_) _ 0 _ _ (Nat.zero_add _) (frI.refl _ _ _) B2 ⟨b1.Nr, b1.Pl, rfl⟩ (fun i x hx => by simp [srtR] at hx) (fun i x _ hx => ok.2.2 i x hx)
    obtain ⟨F, G, rfl⟩ := q3
    iterate 2 (refine R_s kC9 rfl rfl ?_)
    refine lc_arrB (h := h3) (b := ((b1.sO b1.bs 1 b1.fa b1.co).sNr F).sPl G) (fam := fam) (n := n) (S := S) (Lm := Lm) (d + 6) _ hn hN120 ct.2.2 q4 (fun h4 F4 w4 z1 z2 z3 => ?_) _ 0 _ b1.Wo (Nat.zero_add _) (frI.refl _ _ _) q2 (fun q hq => by omega)
    have hNr : ∀ c, c < (cornS n S).length → F c = chM (crL n S c) := by
      intro c hc
      have := (q4 c _ (crL_get hc)).1
      rw [Nat.zero_add] at this
      exact this
    obtain ⟨h5, ⟨F5, y1, y2, y3⟩, cl5⟩ := sp_BO_findFlips (d + 5) z2 hn hn2 hU hN120 ct.2.2 hNr
    repeat (refine R_s kC9 rfl rfl ?_)
    refine R_cv kC9 rfl rfl rfl rfl z2.ob o3 cl5 ?_
    refine R_rv kC9 rfl ⟨rfl, _, ((f2.trans q1).trans z1).trans y1, y2, ⟨ct.1, ct.2.1, ct.2.2⟩, rfl, Or.inl ok.2.1, fun i x hx => ?_, y3⟩
    have h9 := q4 i x hx
    rw [Nat.zero_add] at h9
    exact ⟨h9.1, h9.2, z3 i (List.getElem?_eq_some_iff.mp hx).1⟩
  · rw [ok.1]
    refine Zr_eq kC9 rfl (fun q => absurd q (by decide)) (fun _ => ?_)
    exact R_rv kC9 rfl ⟨rfl, b1, f1, B1, ct, ok⟩
end
