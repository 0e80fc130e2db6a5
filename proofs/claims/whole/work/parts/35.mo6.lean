/-! THE REFERENCE, 6: sets come and go; points, kinds, lines -/
/-- points, sets, lines, chosen, seen, events, book -/
abbrev US : Type := Nat × Int32 × Int32 × List Nat × List (Int32 × Int32) × List (Int32 × Int32) × List (Int32 × Int32)
def rowsG (G : Nat → Int32) (o : Nat) (l : List (Int32 × Int32)) : Prop := G o = nI l.length ∧ ∀ i x, l[i]? = some x → G (o + 1 + 2 * i) = x.1 ∧ G (o + 2 + 2 * i) = x.2
/-- the reference's row g stands for a set-up -/
def GU (U : US) (G : Nat → Int32) : Prop := G 0 = nI U.1 ∧ (∀ s, s < 32 → G (1 + s) = b2i (bt U.2.1 s)) ∧ (∀ q, q < 25 → G (33 + q) = b2i (decide (q / 5 < q % 5) && bt U.2.2.1 q)) ∧
  (G 58 = nI U.2.2.2.1.length ∧ ∀ i x, U.2.2.2.1[i]? = some x → G (59 + i) = nI x) ∧ rowsG G 63 U.2.2.2.2.1 ∧ rowsG G 72 U.2.2.2.2.2.1 ∧ rowsG G 89 U.2.2.2.2.2.2
theorem GU.ln {U : US} {G : Nat → Int32} (h : GU U G) : ∀ a b, a < b → b < 5 → G (33 + (5 * a + b)) = b2i (bt U.2.2.1 (5 * a + b)) := by
  intro a b hab hb
  rw [h.2.2.1 (5 * a + b) (by omega)]
  have h1 : (5 * a + b) / 5 = a := by omega
  have h2 : (5 * a + b) % 5 = b := by omega
  rw [h1, h2, decide_eq_true hab, Bool.true_and]
theorem rowsG.congr {G G' : Nat → Int32} {o : Nat} {l : List (Int32 × Int32)} (h : rowsG G o l) (hl : l.length ≤ 8) (hq : ∀ q, o ≤ q → q ≤ o + 16 → G' q = G q) : rowsG G' o l := by
  refine ⟨by rw [hq o (by omega) (by omega)]; exact h.1, fun i x hi => ?_⟩
  have hlt := (List.getElem?_eq_some_iff.mp hi).1
  rw [hq _ (by omega) (by omega), hq _ (by omega) (by omega)]
  exact h.2 i x hi
/-- a family of sets of n points -/
def Fam (n : Nat) (S : Int32) : Prop := 2 ≤ n ∧ n ≤ 5 ∧ (∀ s, s < 32 → bt S s = true → 1 ≤ s ∧ s < 2 ^ n) ∧ (∀ p, p < n → bt S (2 ^ p) = true) ∧ bt S (2 ^ n - 1) = true ∧ clsd (bt S)
/-- lines of n points: both ways, none of a point to itself -/
def Lin (n : Nat) (Lm : Int32) : Prop := (∀ q, q < 32 → bt Lm q = true → q < 25 ∧ q / 5 < n ∧ q % 5 < n ∧ q / 5 ≠ q % 5) ∧ ∀ a b, a < 5 → b < 5 → bt Lm (5 * a + b) = bt Lm (5 * b + a)
theorem Fam.b0 {n : Nat} {S : Int32} (h : Fam n S) : bt S 0 = false := by
  cases hb : bt S 0 with
  | false => rfl
  | true => have := (h.2.2.1 0 (by omega) hb).1; omega
/-- the least closed family -/
def lcF (F : Nat → Bool) (s : Nat) : Prop := ∀ X, clsd X → (∀ t, t < 32 → F t = true → X t = true) → X s = true
noncomputable def closeS (S : Int32) : Int32 := maskOf (fun s => pb (lcF (bt S) s))
theorem close_eq {S S' : Int32} (h1 : ∀ s, s < 32 → bt S s = true → bt S' s = true) (h2 : ∀ X, clsd X → (∀ s, s < 32 → bt S s = true → X s = true) → ∀ s, s < 32 → bt S' s = true → X s = true) (h3 : clsd (bt S')) : S' = closeS S := by
  apply maskOf_eq
  intro i hi
  cases hb : bt S' i with
  | true => exact (pb_true.mpr (fun X hX hs => h2 X hX hs i hi hb)).symm
  | false => exact (pb_false.mpr (fun q => by rw [q (bt S') h3 h1] at hb; cases hb)).symm
noncomputable def joinS (S : Int32) (c : Nat) : Int32 := if bt S c = true then S else closeS (addM S c)
def delM (S : Int32) (c : Nat) : Int32 := maskOf (fun s => bt S s && !decide (s = c))
theorem delM_bt (S : Int32) {c i : Nat} (hi : i < 32) : bt (delM S c) i = (bt S i && !decide (i = c)) := maskOf_bt _ hi
theorem cnt_lt {P P' : Nat → Bool} : ∀ (k : Nat), (∀ i, i < k → P i = true → P' i = true) → (∃ z, z < k ∧ P' z = true ∧ P z = false) → cnt P k < cnt P' k
  | 0, _, ⟨z, hz, _⟩ => by omega
  | k + 1, h, ⟨z, hz, h1, h2⟩ => by
    have mono : ∀ j, (∀ i, i < j → P i = true → P' i = true) → cnt P j ≤ cnt P' j := by
      intro j
      induction j with
      | zero => intro _; exact Nat.le_refl 0
      | succ j ih =>
        intro hj
        unfold cnt
        have a := ih (fun i hi => hj i (by omega))
        have b := hj j (by omega)
        cases e1 : P j <;> cases e2 : P' j <;> simp_all <;> omega
    unfold cnt
    by_cases e : z = k
    · subst e
      have a := mono z (fun i hi => h i (by omega))
      rw [h1, h2]
      simp
      omega
    · have a := cnt_lt k (fun i hi => h i (by omega)) ⟨z, by omega, h1, h2⟩
      have b := h k (by omega)
      cases e1 : P k <;> cases e2 : P' k <;> simp_all <;> omega
section
variable {h : AH} {k fed pl le fi co : Int32} {G : Nat → Int32} {n : Nat} {S Lm : Int32}
theorem lp_joins (d : Nat) (Q : Option Value → AH → Prop) (ho : h.2 76 = mob k fed pl le fi co) (v : Int32) {S0 : Int32} (kk : ∀ (Sc : Int32) (G1 : Nat → Int32), Sc = closeS S0 → GM G Sc G1 → R (d + 1) 168 30 [some (.ref 76), some (.int v), some (.int (b2i false))] [] (upH h 77 (ints 106 G1)) Q) : ∀ (m : Nat) (Sc : Int32) (G1 : Nat → Int32), 32 - cnt (bt Sc) 32 < m → (∀ s, s < 32 → bt S0 s = true → bt Sc s = true) → (∀ X, clsd X → (∀ s, s < 32 → bt S0 s = true → X s = true) → ∀ s, s < 32 → bt Sc s = true → X s = true) → GM G Sc G1 → R (d + 1) 168 23 [some (.ref 76), some (.int v), some (.int (b2i true))] [] (upH h 77 (ints 106 G1)) Q := by
  have kC9 := co_MO_joins
  intro m
  induction m with
  | zero => intro Sc G1 hm; omega
  | succ m ih =>
    intro Sc G1 hm h1 h2 hG
    have ho' : (upH h 77 (ints 106 G1)).2 76 = mob k fed pl le fi co := ho
    have hg' : (upH h 77 (ints 106 G1)).2 77 = ints 106 G1 := rfl
    obtain ⟨⟨Sc', o, G2⟩, ⟨hI, hG2⟩, hcl⟩ := sp_MO_isOpen d ho' hg' true hG.1
    dsimp only at hI hG2 hcl
    repeat (refine R_s kC9 rfl rfl ?_)
    refine ZB_eq kC9 rfl (q := true) (fun hq => by cases hq) (fun _ => ?_)
    repeat (refine R_s kC9 rfl rfl ?_)
    refine R_cv kC9 rfl rfl rfl rfl ho' (by decide) hcl ?_
    rw [upH_upH]
    have hG3 : GM G Sc' G2 := ⟨hG2.1, by rw [hG2.2.1]; exact hG.2.1, fun q hq => by rw [hG2.2.2 q hq]; exact hG.2.2 q hq⟩
    iterate 1 (refine R_s kC9 rfl rfl ?_)
    refine R_g kC9 rfl ?_
    refine (show R (d + 1) 168 23 [some (.ref 76), some (.int v), some (.int (b2i o))] [] (upH h 77 (ints 106 G2)) Q from ?_)
    cases o with
    | false =>
      obtain ⟨e, hc⟩ := hI.closed
      subst e
      repeat (refine R_s kC9 rfl rfl ?_)
      refine ZB_eq kC9 rfl (q := false) (fun _ => ?_) (fun hq => by cases hq)
      exact kk Sc' G2 (close_eq h1 h2 hc) hG3
    | true =>
      obtain ⟨z, hz, hz1, hz2⟩ := (hI.2.2.2 rfl).1 rfl
      have hlt := cnt_lt 32 (P := bt Sc) (P' := bt Sc') (fun i hi q => hI.1 i hi q) ⟨z, hz, hz1, hz2⟩
      have hle := cnt_le (bt Sc') 32
      exact ih Sc' G2 (by omega) (fun s hs q => hI.1 s hs (h1 s hs q)) (fun X hX hs s hs2 q => hI.2.1 X hX (fun t ht q2 => h2 X hX hs t ht q2) s hs2 q) hG3
/-- joins -/
theorem sp_MO_joins (d : Nat) (ho : h.2 76 = mob k fed pl le fi co) (hg : h.2 77 = ints 106 G) (hS : ∀ s, s < 32 → G (1 + s) = b2i (bt S s)) {c : Nat} (hc : c < 32) : ∃ G', ((∀ s, s < 32 → G' (1 + s) = b2i (bt (joinS S c) s)) ∧ G' 0 = G 0 ∧ G' 58 = (if bt S c = true then G 58 else nI 0) ∧ ∀ q, 33 ≤ q → q ≠ 58 → G' q = G q) ∧ Cl (d + 1) 168 [.ref 76, .int (nI c)] h none (upH h 77 (ints 106 G')) := by
  have kC9 := co_MO_joins
  cases hb : bt S c with
  | true =>
    refine ⟨G, ⟨fun s hs => by unfold joinS; rw [if_pos hb]; exact hS s hs, rfl, by rw [if_pos rfl], fun _ _ _ => rfl⟩, ?_⟩
    refine Cl_of kC9 rfl rfl ?_
    repeat (refine R_s kC9 rfl rfl ?_)
    refine R_get kC9 rfl (ho) rfl ?_
    repeat (refine R_s kC9 rfl rfl ?_)
    refine R_ild kC9 rfl (hg) (nI_add 1 c) (by omega) (by decide) ?_
    rw [hS c hc, hb]
    repeat (refine R_s kC9 rfl rfl ?_)
    refine R_ne kC9 rfl (u := 1) (v := 1) rfl rfl (by decide) (by decide) (fun q => absurd rfl q) (fun _ => ?_)
    exact R_rv kC9 rfl ⟨rfl, (upH_self hg).symm⟩
  | false =>
    refine Cl_ex (f := fun _ => none) (g := fun G' => upH h 77 (ints 106 G')) kC9 rfl rfl ?_
    repeat (refine R_s kC9 rfl rfl ?_)
    refine R_get kC9 rfl (ho) rfl ?_
    repeat (refine R_s kC9 rfl rfl ?_)
    refine R_ild kC9 rfl (hg) (nI_add 1 c) (by omega) (by decide) ?_
    rw [hS c hc, hb]
    repeat (refine R_s kC9 rfl rfl ?_)
    refine R_ne kC9 rfl (u := 0) (v := 1) rfl rfl (by decide) (by decide) (fun _ => ?_) (fun q => absurd q (by decide))
    repeat (refine R_s kC9 rfl rfl ?_)
    refine R_get kC9 rfl (ho) rfl ?_
    repeat (refine R_s kC9 rfl rfl ?_)
    refine R_ist kC9 rfl (hg) (by decide) (nI_add 1 c) (by omega) (by decide) ?_
    repeat (refine R_s kC9 rfl rfl ?_)
    refine R_get kC9 rfl (show (upH h 77 (ints 106 (upd G (1 + c) (nI 1)))).2 76 = mob k fed pl le fi co from ho) rfl ?_
    repeat (refine R_s kC9 rfl rfl ?_)
    refine R_ist kC9 rfl (h := upH h 77 (ints 106 (upd G (1 + c) (nI 1)))) rfl (by decide) (k := 58) rfl (by decide) (by decide) ?_
    rw [upH_upH]
    iterate 2 (refine R_s kC9 rfl rfl ?_)
    have hG0 : GM (upd G 58 (nI 0)) S (upd G 58 (nI 0)) := ⟨fun s hs => by rw [pk_un (by omega)]; exact hS s hs, rfl, fun _ _ => rfl⟩
    have hG1 := hG0.add hc
    have e9 : upd (upd G (1 + c) (nI 1)) 58 (nI 0) = upd (upd G 58 (nI 0)) (1 + c) (nI 1) := by
      funext j
      by_cases e1 : j = 58
      · subst e1; rw [pk_us, pk_un (by omega), pk_us]
      · rw [pk_un e1]
        by_cases e2 : j = 1 + c
        · subst e2; rw [pk_us, pk_us]
        · rw [pk_un e2, pk_un e2, pk_un e1]
    rw [e9]
    refine lp_joins d _ ho (nI c) (S0 := addM S c) (fun Sc G1 hSc hGc => ?_) 33 (addM S c) _ (by omega) (fun s _ q => q) (fun X _ hs s hs2 q => hs s hs2 q) hG1
    subst hSc
    refine R_rv kC9 rfl ⟨G1, ⟨fun s hs => by unfold joinS; rw [if_neg (by rw [hb]; decide)]; exact hGc.1 s hs, by rw [hGc.2.1, pk_un (by omega)], ?_, fun q hq hne => by rw [hGc.2.2 q hq, pk_un hne]⟩, rfl, rfl⟩
    rw [if_neg (by decide), hGc.2.2 58 (by omega), pk_us]
/-- may a set go -/
noncomputable def letB (n : Nat) (S : Int32) (c : Nat) : Bool := !(decide (pc c = 1) || decide (c = 2 ^ n - 1)) && pb (clsd (bt (delM S c)))
theorem sp_MO_isLet (d : Nat) (ho : h.2 76 = mob k fed pl le fi co) (hg : h.2 77 = ints 106 G) (hn : n ≤ 5) (h0 : G 0 = nI n) (hS : ∀ s, s < 32 → G (1 + s) = b2i (bt S s)) {c : Nat} (hc : c < 32) (hin : bt S c = true) : Cl (d + 1) 170 [.ref 76, .int (nI c)] h (some (.int (b2i (letB n S c)))) (upH h 77 (ints 106 (if letB n S c = true then upd (upd G (1 + c) (nI 0)) 58 (nI 0) else G))) := by
  have hpc : pc c ≤ 5 := by unfold pc; omega
  have hp := pow5 hn
  have kC9 := co_MO_isLet
  refine Cl_of kC9 rfl rfl ?_
  repeat (refine R_s kC9 rfl rfl ?_)
  refine R_cs kC9 rfl rfl rfl rfl (sp_MO_bits d hc h) ?_
  repeat (refine R_s kC9 rfl rfl ?_)
  have out : (decide (pc c = 1) || decide (c = 2 ^ n - 1)) = true → R (d + 1) 170 8 [some (.ref 76), some (.int (nI c))] [] h (fun r2 h2 => r2 = some (.int (b2i (letB n S c))) ∧ h2 = upH h 77 (ints 106 (if letB n S c = true then upd (upd G (1 + c) (nI 0)) 58 (nI 0) else G))) := by
    intro q
    have e : letB n S c = false := by unfold letB; rw [q]; rfl
    rw [e]
    repeat (refine R_s kC9 rfl rfl ?_)
    exact R_rz kC9 rfl (Or.inl rfl) ⟨rfl, by rw [if_neg (by decide)]; exact (upH_self hg).symm⟩
  refine R_eq kC9 rfl (rfl) (rfl) (by omega) (by omega) (fun hc => ?_) (fun hc => ?_)
  · exact out (by rw [decide_eq_true hc]; rfl)
  · have h1 := hc
    repeat (refine R_s kC9 rfl rfl ?_)
    refine R_cv kC9 rfl rfl rfl rfl (ho) (by decide) (sp_MO_whole d ho hg hn h0) ?_
    refine R_ne kC9 rfl (rfl) (rfl) (by omega) (by omega) (fun hc => ?_) (fun hc => ?_)
    · have h2 := hc
      have eL : letB n S c = pb (clsd (bt (delM S c))) := by unfold letB; rw [decide_eq_false h1, decide_eq_false h2]; rfl
      rw [eL]
      repeat (refine R_s kC9 rfl rfl ?_)
      refine R_get kC9 rfl (ho) rfl ?_
      repeat (refine R_s kC9 rfl rfl ?_)
      refine R_ist kC9 rfl (hg) (by decide) (nI_add 1 c) (by omega) (by decide) ?_
      repeat (refine R_s kC9 rfl rfl ?_)
      have hS' : ∀ s, s < 32 → (upd G (1 + c) (nI 0)) (1 + s) = b2i (bt (delM S c) s) := by
        intro s hs
        rw [delM_bt S hs]
        by_cases e : s = c
        · subst e; rw [pk_us, decide_eq_true rfl]; simp; rfl
        · rw [pk_un (by omega), hS s hs, decide_eq_false e]; simp
      have ho' : (upH h 77 (ints 106 (upd G (1 + c) (nI 0)))).2 76 = mob k fed pl le fi co := ho
      obtain ⟨⟨Sc', o, G2⟩, ⟨hI, hG2⟩, hcl⟩ := sp_MO_isOpen d ho' (rfl : (upH h 77 (ints 106 (upd G (1 + c) (nI 0)))).2 77 = _) false hS'
      dsimp only at hI hG2 hcl
      refine R_cv kC9 rfl rfl rfl rfl ho' (by decide) hcl ?_
      rw [upH_upH]
      have hSc : Sc' = delM S c := by
        cases o with
        | false => exact hI.closed.1
        | true => exact ((hI.2.2.2 rfl).2 rfl).1
      subst hSc
      have hGe : G2 = upd G (1 + c) (nI 0) := hG2.eq ⟨hS', rfl, fun _ _ => rfl⟩
      subst hGe
      have ho2 : (upH h 77 (ints 106 (upd G (1 + c) (nI 0)))).2 76 = mob k fed pl le fi co := ho
      refine ZB_eq kC9 rfl (fun hc => ?_) (fun hc => ?_)
      · have hcl2 := (show OI false (delM S c) (delM S c) false 32 1 from hc ▸ hI).closed.2
        have eT : pb (clsd (bt (delM S c))) = true := pb_true.mpr hcl2
        rw [eT]
        repeat (refine R_s kC9 rfl rfl ?_)
        refine R_get kC9 rfl (ho2) rfl ?_
        repeat (refine R_s kC9 rfl rfl ?_)
        refine R_ist kC9 rfl (h := upH h 77 (ints 106 (upd G (1 + c) (nI 0)))) rfl (by decide) (k := 58) rfl (by decide) (by decide) ?_
        rw [upH_upH]
        repeat (refine R_s kC9 rfl rfl ?_)
        exact R_rz kC9 rfl (Or.inr rfl) ⟨rfl, by rw [if_pos rfl]⟩
      · have hcl2 := (((show OI false (delM S c) (delM S c) true 32 1 from hc ▸ hI).2.2.2 rfl).2 rfl).2
        have eT : pb (clsd (bt (delM S c))) = false := pb_false.mpr hcl2
        rw [eT]
        repeat (refine R_s kC9 rfl rfl ?_)
        refine R_get kC9 rfl (ho2) rfl ?_
        repeat (refine R_s kC9 rfl rfl ?_)
        refine R_ist kC9 rfl (h := upH h 77 (ints 106 (upd G (1 + c) (nI 0)))) rfl (by decide) (k := 1 + c) (nI_add 1 c) (by omega) (by decide) ?_
        rw [upH_upH]
        have e9 : upd (upd G (1 + c) (nI 0)) (1 + c) (nI 1) = G := by
          funext j
          by_cases e1 : j = 1 + c
          · subst e1; rw [pk_us, hS c (by omega), hin]; rfl
          · rw [pk_un e1, pk_un e1]
        rw [e9]
        repeat (refine R_s kC9 rfl rfl ?_)
        exact R_rz kC9 rfl (Or.inl rfl) ⟨rfl, by rw [if_neg (by decide)]⟩
    · exact out (by rw [decide_eq_true hc, Bool.or_true])
end
