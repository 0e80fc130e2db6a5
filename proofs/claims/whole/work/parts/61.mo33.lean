/-! THE REFERENCE, 32: leads -/
/-- the order that a number tells -/
def ldD (n : Nat) : Nat → Nat → List Nat → Option (List Nat)
  | 0, t, acc => if t = 0 then some acc else none
  | m + 1, t, acc => if 1 ≤ t % 10 ∧ t % 10 ≤ n ∧ ¬ (t % 10 - 1) ∈ acc then ldD n m (t / 10) ((t % 10 - 1) :: acc) else none
theorem ldD_succ (n m t : Nat) (acc : List Nat) : ldD n (m + 1) t acc = if 1 ≤ t % 10 ∧ t % 10 ≤ n ∧ ¬ (t % 10 - 1) ∈ acc then ldD n m (t / 10) ((t % 10 - 1) :: acc) else none := rfl
theorem ldD_zero (n t : Nat) (acc : List Nat) : ldD n 0 t acc = if t = 0 then some acc else none := rfl
noncomputable def leadsR (n : Nat) (S v : Int32) : Int32 := if v < 0 then -2 else (match ldD n n v.toNatClampNeg [] with | none => -2 | some od => optI (leadsN n S od))
theorem rem10_neg {v : Int32} (hv : v < 0) : (v - v / nI 10 * nI 10).toInt ≤ 0 ∧ -10 < (v - v / nI 10 * nI 10).toInt := by
  have e10 : (nI 10).toInt = 10 := by decide
  have e0 : (0 : Int32).toInt = 0 := by decide
  rw [Int32.lt_iff_toInt_lt, e0] at hv
  have hlo : -2147483648 ≤ v.toInt := Int32.le_toInt v
  have td : v.toInt.tdiv 10 = -((-v.toInt) / 10) := by
    have h1 : v.toInt.tdiv 10 = (-(-v.toInt)).tdiv 10 := by rw [Int.neg_neg]
    rw [h1, Int.neg_tdiv, Int.tdiv_eq_ediv_of_nonneg (by omega)]
  have d1 : (v / nI 10).toInt = -((-v.toInt) / 10) := by
    rw [Int32.toInt_div, e10, td]
    exact Int.bmod_eq_of_le (by omega) (by omega)
  have m1 : (v / nI 10 * nI 10).toInt = -((-v.toInt) / 10) * 10 := by
    rw [Int32.toInt_mul, e10, d1]
    exact Int.bmod_eq_of_le (by omega) (by omega)
  have s1 : (v - v / nI 10 * nI 10).toInt = v.toInt - -((-v.toInt) / 10) * 10 := by
    rw [Int32.toInt_sub, m1]
    exact Int.bmod_eq_of_le (by omega) (by omega)
  rw [s1]
  omega
section
variable {h : AH} {k fed pl le fi : Int32} {G : Nat → Int32} {n : Nat} {S : Int32} {z : ZT}
theorem lp_leads (d : Nat) (Q : Option Value → AH → Prop) (hm : mCel h k fed pl le fi G z) (hn : n ≤ 5) (hn2 : 2 ≤ n) (h0 : G 0 = nI n) (v1 : Int32) {Cn : Nat → Int32} : ∀ (m t : Nat) (acc : List Nat) (sn : Nat) (Of : Nat → Int32) (w5 : Option Value), acc.length + m = n → t < 2 ^ 31 → sn < 32 → (∀ q, q < 5 → (sn.testBit q = true ↔ q ∈ acc)) → (∀ j p, acc[j]? = some p → Of (m + j) = nI p ∧ p < 5) → (∀ Of', ldD n m t acc = none → Q (some (.int (-2))) (odH h Of' Cn)) → (∀ (Of' : Nat → Int32) (od : List Nat) (w2 w3 w4 w5 : Option Value), ldD n m t acc = some od → od.length = n → OdA od Of' → R (d + 2) 225 50 [some (.ref 76), some (.int v1), w2, w3, w4, w5] [] (odH h Of' Cn) Q) → R (d + 2) 225 11 [some (.ref 76), some (.int v1), some (.int (nI t)), some (.int (nI sn)), some (.int (nI m - nI 1)), w5] [] (odH h Of Cn) Q := by
  have kC9 := co_MO_leads
  intro m
  induction m with
  | zero =>
    intro t acc sn Of w5 hl ht hsn hseen hO kn ks
    repeat (refine R_s kC9 rfl rfl ?_)
    refine Zr_lt kC9 rfl (fun _ => ?_) (fun q => absurd (by decide : nI 0 - nI 1 < 0) q)
    rw [ldD_zero] at kn ks
    repeat (refine R_s kC9 rfl rfl ?_)
    refine Z_eq kC9 rfl rfl ht (fun q => ?_) (fun q => ?_)
    · refine ks Of acc _ _ _ _ (by rw [if_pos q]) (by omega) (fun i p hp => ?_)
      have := hO i p hp
      rw [Nat.zero_add] at this
      exact this
    · repeat (refine R_s kC9 rfl rfl ?_)
      exact R_ri kC9 rfl (kn Of (by rw [if_neg q]))
  | succ m ih =>
    intro t acc sn Of w5 hl ht hsn hseen hO kn ks
    have ho : (odH h Of Cn).2 76 = mob k fed pl le fi (nI z.2.2.2.2.2.2) := hm.1
    have hg : (odH h Of Cn).2 77 = ints 106 G := hm.2.1
    have hOc : (odH h Of Cn).2 90 = ints 5 Of := rfl
    have z10 : ¬ (nI 10 : Int32) = 0 := by decide
    have er : nI t - nI t / nI 10 * nI 10 = nI (t % 10) := pk_rem ht (by omega) (by omega)
    have ed : nI t / nI 10 = nI (t / 10) := pk_div ht (by omega) (by omega)
    rw [ldD_succ] at kn ks
    rw [pk_sub (show 1 ≤ m + 1 by omega), Nat.add_sub_cancel]
    have bad : ¬ (1 ≤ t % 10 ∧ t % 10 ≤ n ∧ ¬ (t % 10 - 1) ∈ acc) → ∀ w5, R (d + 2) 225 27 [some (.ref 76), some (.int v1), some (.int (nI t)), some (.int (nI sn)), some (.int (nI m)), w5] [] (odH h Of Cn) Q := by
      intro q w5
      repeat (refine R_s kC9 rfl rfl ?_)
      exact R_ri kC9 rfl (kn Of (by rw [if_neg q]))
    repeat (refine R_s kC9 rfl rfl ?_)
    refine Z_lt kC9 rfl rfl (by omega) (fun q => by omega) (fun _ => ?_)
    repeat (refine R_s kC9 rfl rfl ?_)
    refine R_rem kC9 rfl z10 ?_
    rw [er]
    repeat (refine R_s kC9 rfl rfl ?_)
    refine R_cv kC9 rfl rfl rfl rfl ho (by decide) (sp_MO_isPoint d ho hg hn (by omega) h0 (nI (t % 10) - nI 1)) ?_
    have ept : ptB n (nI (t % 10) - nI 1) = decide (1 ≤ t % 10 ∧ t % 10 ≤ n) := by
      unfold ptB
      rw [sub_ti (by omega) (by decide)]
      congr 1
      apply propext
      omega
    rw [ept]
    refine ZB_eq kC9 rfl (fun q => bad (fun x => (of_decide_eq_false q) ⟨x.1, x.2.1⟩) _) (fun q => ?_)
    have hpt := of_decide_eq_true q
    rw [pk_sub hpt.1]
    repeat (refine R_s kC9 rfl rfl ?_)
    refine R_cs kC9 rfl rfl rfl rfl (sp_MO_has (d + 1) (s := sn) (k := t % 10 - 1) (by omega) (by omega) (odH h Of Cn)) ?_
    refine ZB_eq kC9 rfl (fun q2 => ?_) (fun q2 => ?_)
    · have hni : ¬ (t % 10 - 1) ∈ acc := fun x => by rw [(hseen _ (by omega)).mpr x] at q2; cases q2
      rw [if_pos ⟨hpt.1, hpt.2, hni⟩] at kn ks
      repeat (refine R_s kC9 rfl rfl ?_)
      refine R_get kC9 rfl (ho) rfl ?_
      repeat (refine R_s kC9 rfl rfl ?_)
      refine R_ist kC9 rfl (hOc) (by decide) (rfl) (by omega) (by decide) ?_
      rw [odH_O]
      repeat (refine R_s kC9 rfl rfl ?_)
      refine R_div kC9 rfl z10 ?_
      rw [ed]
      repeat (refine R_s kC9 rfl rfl ?_)
      refine R_g kC9 rfl ?_
      have e1 : nI sn ||| (nI 1 <<< (nI (t % 10 - 1) &&& 31)) = nI (sn ||| 2 ^ (t % 10 - 1)) := by rw [nI_shl (by omega), Nat.one_shiftLeft, nx_or]
      have e2 : nI m + (-1) = nI m - nI 1 := by rw [Int32.sub_eq_add_neg]; rfl
      refine (show R (d + 2) 225 11 [some (.ref 76), some (.int v1), some (.int (nI (t / 10))), some (.int (nI sn ||| (nI 1 <<< (nI (t % 10 - 1) &&& 31)))), some (.int (nI m + (-1))), some (.int (nI (t % 10 - 1)))] [] (odH h (upd Of m (nI (t % 10 - 1))) Cn) Q from ?_)
      rw [e1, e2]
      refine ih (t / 10) ((t % 10 - 1) :: acc) (sn ||| 2 ^ (t % 10 - 1)) _ _ (by rw [List.length_cons]; omega) (by omega) (Nat.or_lt_two_pow (n := 5) hsn (Nat.pow_lt_pow_right (by omega) (by omega))) (fun x hx => ?_) (fun j p hp => ?_) kn ks
      · rw [Nat.testBit_or, Nat.testBit_two_pow, Bool.or_eq_true, hseen x hx, decide_eq_true_eq, List.mem_cons]
        constructor
        · rintro (a | a)
          · exact Or.inr a
          · exact Or.inl a.symm
        · rintro (a | a)
          · exact Or.inr a.symm
          · exact Or.inl a
      · cases j with
        | zero =>
          have : t % 10 - 1 = p := by simpa using hp
          subst this
          exact ⟨pk_us, by omega⟩
        | succ j =>
          rw [List.getElem?_cons_succ] at hp
          have := hO j p hp
          rw [pk_un (by omega), show m + (j + 1) = m + 1 + j by omega]
          exact this
    · exact bad (fun x => x.2.2 ((hseen _ (by omega)).mp q2)) _
theorem sp_MO_leads (d : Nat) (hm : mCel h k fed pl le fi G z) (hn : n ≤ 5) (hn2 : 2 ≤ n) (h0 : G 0 = nI n) (hS : ∀ s, s < 32 → G (1 + s) = b2i (bt S s)) (hb : c120 n S) (hI : caI z) (hr : rows4 h) (v : Int32) : ∃ z' h', caI z' ∧ mCel h' k fed pl le fi G z' ∧ frm2 h h' ∧ rows4 h' ∧ Cl (d + 8) 225 [.ref 76, .int v] h (some (.int (leadsR n S v))) h' := by
  have kC9 := co_MO_leads
  have hr' := hr
  obtain ⟨_, _, ⟨Of, hO⟩, ⟨Cn, hC⟩⟩ := hr'
  have ho := hm.1
  have hg := hm.2.1
  have hs := odH_self hO hC
  have key : ∃ h' , (∃ z', caI z' ∧ mCel h' k fed pl le fi G z' ∧ frm2 h h' ∧ rows4 h') ∧ Cl (d + 8) 225 [.ref 76, .int v] h (some (.int (leadsR n S v))) h' := by
    refine Cl_ex (f := fun _ => some (.int (leadsR n S v))) (g := fun h' => h') kC9 rfl rfl ?_
    unfold leadsR
    by_cases hv : v < 0
    · rw [if_pos hv]
      have hrm := rem10_neg hv
      have z10 : ¬ (nI 10 : Int32) = 0 := by decide
      repeat (refine R_s kC9 rfl rfl ?_)
      refine R_get kC9 rfl (ho) rfl ?_
      repeat (refine R_s kC9 rfl rfl ?_)
      refine R_ild kC9 rfl (hg) (rfl) (by decide) (by decide) ?_
      rw [h0]
      repeat (refine R_s kC9 rfl rfl ?_)
      refine Z_lt kC9 rfl (pk_sub (by omega)) (by omega) (fun q => by omega) (fun _ => ?_)
      repeat (refine R_s kC9 rfl rfl ?_)
      refine R_rem kC9 rfl z10 ?_
      repeat (refine R_s kC9 rfl rfl ?_)
      refine R_cv kC9 rfl rfl rfl rfl ho (by decide) (sp_MO_isPoint (d + 6) ho hg hn (by omega) h0 (v - v / nI 10 * nI 10 - nI 1)) ?_
      have ept : ptB n (v - v / nI 10 * nI 10 - nI 1) = false := by
        unfold ptB
        rw [decide_eq_false_iff_not, Int32.toInt_sub, show (nI 1).toInt = 1 by decide, Int.bmod_eq_of_le (by omega) (by omega)]
        omega
      rw [ept]
      refine ZB_eq kC9 rfl (q := false) (fun _ => ?_) (fun q => by cases q)
      repeat (refine R_s kC9 rfl rfl ?_)
      exact R_ri kC9 rfl ⟨h, ⟨z, hI, hm, frm2.rfl, hr⟩, rfl, rfl⟩
    · rw [if_neg hv]
      obtain ⟨t, ht, rfl⟩ := nI_of hv
      rw [nI_clamp ht]
      repeat (refine R_s kC9 rfl rfl ?_)
      refine R_get kC9 rfl (ho) rfl ?_
      repeat (refine R_s kC9 rfl rfl ?_)
      refine R_ild kC9 rfl (hg) (rfl) (by decide) (by decide) ?_
      rw [h0]
      iterate 3 (refine R_s kC9 rfl rfl ?_)
      rw [← hs]
      refine lp_leads (d + 6) _ hm hn hn2 h0 (nI t) n t [] 0 Of none (by simp) ht (by omega) (fun q _ => by simp) (fun j p hp => by simp at hp) (fun Of' hno => ?_) (fun Of' od w2 w3 w4 w5 hsome hlen hOd => ?_)
      · rw [hno]
        exact ⟨odH h Of' Cn, ⟨z, hI, hm.od Of' Cn, by rw [hs]; exact odH_frm Of' Cn, hr.od Of' Cn⟩, rfl, rfl⟩
      · rw [hsome]
        have hm' := hm.od Of' Cn
        obtain ⟨z1, h1, hz1, hm1, hf1, hcl1⟩ := st_finds (h := odH h Of' Cn) d hm' hn hn2 h0 hS hb hI
        have hOd1 : h1.2 90 = ints 5 Of' := (hf1.2 90 (by omega)).trans rfl
        have hCn1 : h1.2 91 = ints 5 Cn := (hf1.2 91 (by omega)).trans rfl
        obtain ⟨y, _, hcl2⟩ := sp_MO_leadsTo (h := h1) (Cn := Cn) (d + 6) hm1 hn h0 hS hz1 hb hlen hOd
        rw [odH_self hOd1 hCn1] at hcl2
        repeat (refine R_s kC9 rfl rfl ?_)
        refine R_cv kC9 rfl rfl rfl rfl (h := odH h Of' Cn) hm'.1 (by decide) hcl1 ?_
        repeat (refine R_s kC9 rfl rfl ?_)
        refine R_cv kC9 rfl rfl rfl rfl hm1.1 (by decide) hcl2 ?_
        exact R_ri kC9 rfl ⟨odH h1 Of' y, ⟨z1, hz1.i hn, hm1.od Of' y, by rw [hs]; exact ((odH_frm Of' Cn).trans hf1.to2).trans (odH_frm Of' y), ((hr.od Of' Cn).frm hf1).od Of' y⟩, rfl, rfl⟩
  obtain ⟨h', ⟨z', a1, a2, a3, a4⟩, hcl⟩ := key
  exact ⟨z', h', a1, a2, a3, a4, hcl⟩
end
