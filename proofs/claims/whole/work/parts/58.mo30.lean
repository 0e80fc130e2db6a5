/-! THE SPECIFICATION, 7: orders; THE REFERENCE, 29: leadsTo -/
/-- the first of an order's points that a set has -/
def fstP (od : List Nat) (s : Nat) : Option Nat := od.find? (fun p => s.testBit p)
def ctB (S : Int32) (od : List Nat) (p s : Nat) : Bool := bt S s && decide (fstP od s = some p)
def cntO (S : Int32) (od : List Nat) (p : Nat) : Nat := cnt (ctB S od p) 32
def ldF (P : Nat → Bool) : Nat → Nat → Option Nat
  | 0, _ => none
  | m + 1, c => if P c = true then some c else ldF P m (c + 1)
theorem ldF_succ (P : Nat → Bool) (m c : Nat) : ldF P (m + 1) c = if P c = true then some c else ldF P m (c + 1) := rfl
noncomputable def ldB (n : Nat) (S : Int32) (od : List Nat) (c : Nat) : Bool := pb (∀ p, p < n → crow n S c p = cntO S od p)
noncomputable def leadsN (n : Nat) (S : Int32) (od : List Nat) : Option Nat := ldF (ldB n S od) (cornS n S).length 0
def bump (Cn : Nat → Int32) (o : Option Nat) : Nat → Int32 := match o with
  | none => Cn
  | some p => upd Cn p (Cn p + nI 1)
abbrev odH (h : AH) (Of Cn : Nat → Int32) : AH := upH (upH h 90 (ints 5 Of)) 91 (ints 5 Cn)
section
variable {h : AH} {k fed pl le fi : Int32} {G : Nat → Int32} {n : Nat} {S : Int32} {z : ZT}
theorem odH_O (Of Of' Cn : Nat → Int32) : upH (odH h Of Cn) 90 (ints 5 Of') = odH h Of' Cn := by
  refine heap_ext rfl (fun q => ?_)
  simp only [upH]
  repeat' split
  all_goals first | rfl | (simp_all)
theorem odH_C (Of Cn Cn' : Nat → Int32) : upH (odH h Of Cn) 91 (ints 5 Cn') = odH h Of Cn' := upH_upH _ _ _ _
theorem mCel.od (hm : mCel h k fed pl le fi G z) (Of Cn : Nat → Int32) : mCel (odH h Of Cn) k fed pl le fi G z := hm
theorem lp_lt0 (d : Nat) (Q : Option Value → AH → Prop) (hm : mCel h k fed pl le fi G z) {Of : Nat → Int32} (kk : ∀ Cn, (∀ p, p < 5 → Cn p = nI 0) → R d 222 12 [some (.ref 76), some (.int (nI 5)), none, none] [] (odH h Of Cn) Q) : ∀ (m i : Nat) (Cn : Nat → Int32), i + m = 5 → (∀ p, p < i → Cn p = nI 0) → R d 222 2 [some (.ref 76), some (.int (nI i)), none, none] [] (odH h Of Cn) Q := by
  have kC9 := co_MO_leadsTo
  intro m
  induction m with
  | zero =>
    intro i Cn hi h1
    have : i = 5 := by omega
    subst this
    repeat (refine R_s kC9 rfl rfl ?_)
    refine R_ge kC9 rfl (rfl) (rfl) (by omega) (by omega) (fun hc => ?_) (fun hc => ?_)
    · exact kk Cn h1
    · omega
  | succ m ih =>
    intro i Cn hi h1
    have ho : (odH h Of Cn).2 76 = mob k fed pl le fi (nI z.2.2.2.2.2.2) := hm.1
    repeat (refine R_s kC9 rfl rfl ?_)
    refine R_ge kC9 rfl (rfl) (rfl) (by omega) (by omega) (fun hc => ?_) (fun hc => ?_)
    · omega
    · repeat (refine R_s kC9 rfl rfl ?_)
      refine R_get kC9 rfl (ho) rfl ?_
      repeat (refine R_s kC9 rfl rfl ?_)
      refine R_ist kC9 rfl (h := odH h Of Cn) rfl (by decide) (k := i) rfl (by omega) (by decide) ?_
      rw [odH_C]
      repeat (refine R_s kC9 rfl rfl ?_)
      refine R_g kC9 rfl ?_
      refine (show R d 222 2 [some (.ref 76), some (.int (nI i + nI 1)), none, none] [] (odH h Of (upd Cn i (nI 0))) Q from ?_)
      rw [nI_add]
      refine ih (i + 1) _ (by omega) (fun p hp => ?_)
      by_cases e : p = i
      · subst e; rw [pk_us]
      · rw [pk_un e]; exact h1 p (by omega)
theorem lp_ltI (d : Nat) (Q : Option Value → AH → Prop) (hm : mCel h k fed pl le fi G z) (hn : n ≤ 5) (h0 : G 0 = nI n) {Of Cn : Nat → Int32} {od : List Nat} (hod : od.length = n) (hO : ∀ i p, od[i]? = some p → Of i = nI p ∧ p < 5) {s : Nat} (hs : s < 32) : ∀ (m i : Nat), i + m = n → (∀ w2 w3 : Option Value, R (d + 1) 222 61 [some (.ref 76), some (.int (nI s)), w2, w3] [] (odH h Of (bump Cn ((od.drop i).find? (fun p => s.testBit p)))) Q) → R (d + 1) 222 31 [some (.ref 76), some (.int (nI s)), some (.int (b2i true)), some (.int (nI i))] [] (odH h Of Cn) Q := by
  have kC9 := co_MO_leadsTo
  have ho : (odH h Of Cn).2 76 = mob k fed pl le fi (nI z.2.2.2.2.2.2) := hm.1
  have hg : (odH h Of Cn).2 77 = ints 106 G := hm.2.1
  have hOc : (odH h Of Cn).2 90 = ints 5 Of := rfl
  intro m
  induction m with
  | zero =>
    intro i hi kk
    rw [List.drop_eq_nil_of_le (by omega)] at kk
    repeat (refine R_s kC9 rfl rfl ?_)
    refine R_get kC9 rfl (ho) rfl ?_
    repeat (refine R_s kC9 rfl rfl ?_)
    refine R_ild kC9 rfl (hg) (rfl) (by decide) (by decide) ?_
    rw [h0]
    refine R_ge kC9 rfl (rfl) (rfl) (by omega) (by omega) (fun hc => ?_) (fun hc => ?_)
    · exact kk _ _
    · omega
  | succ m ih =>
    intro i hi kk
    obtain ⟨p, hp⟩ : ∃ p, od[i]? = some p := ⟨od[i], List.getElem?_eq_getElem (by omega)⟩
    obtain ⟨o1, o2⟩ := hO i p hp
    rw [drop_cons hp, List.find?_cons] at kk
    repeat (refine R_s kC9 rfl rfl ?_)
    refine R_get kC9 rfl (ho) rfl ?_
    repeat (refine R_s kC9 rfl rfl ?_)
    refine R_ild kC9 rfl (hg) (rfl) (by decide) (by decide) ?_
    rw [h0]
    refine R_ge kC9 rfl (rfl) (rfl) (by omega) (by omega) (fun hc => ?_) (fun hc => ?_)
    · omega
    · repeat (refine R_s kC9 rfl rfl ?_)
      refine ZB_eq kC9 rfl (q := true) (fun q => by cases q) (fun _ => ?_)
      repeat (refine R_s kC9 rfl rfl ?_)
      refine R_get kC9 rfl (ho) rfl ?_
      repeat (refine R_s kC9 rfl rfl ?_)
      refine R_ild kC9 rfl (hOc) (rfl) (by omega) (by decide) ?_
      rw [o1]
      refine R_cs kC9 rfl rfl rfl rfl (sp_MO_has d (s := s) (k := p) (by omega) (by omega) (odH h Of Cn)) ?_
      refine ZB_eq kC9 rfl (fun q => ?_) (fun q => ?_)
      · rw [q] at kk
        repeat (refine R_s kC9 rfl rfl ?_)
        refine R_g kC9 rfl ?_
        refine (show R (d + 1) 222 31 [some (.ref 76), some (.int (nI s)), some (.int (b2i true)), some (.int (nI i + nI 1))] [] (odH h Of Cn) Q from ?_)
        rw [nI_add]
        exact ih (i + 1) (by omega) kk
      · rw [q] at kk
        repeat (refine R_s kC9 rfl rfl ?_)
        refine R_get kC9 rfl (ho) rfl ?_
        repeat (refine R_s kC9 rfl rfl ?_)
        refine R_get kC9 rfl (ho) rfl ?_
        repeat (refine R_s kC9 rfl rfl ?_)
        refine R_ild kC9 rfl (hOc) (rfl) (by omega) (by decide) ?_
        rw [o1]
        repeat (refine R_s kC9 rfl rfl ?_)
        refine R_ild kC9 rfl (h := odH h Of Cn) rfl (k := p) rfl (by omega) (by decide) ?_
        repeat (refine R_s kC9 rfl rfl ?_)
        refine R_ist kC9 rfl (h := odH h Of Cn) rfl (by decide) (k := p) rfl (by omega) (by decide) ?_
        rw [odH_C]
        repeat (refine R_s kC9 rfl rfl ?_)
        refine R_g kC9 rfl ?_
        refine (show R (d + 1) 222 31 [some (.ref 76), some (.int (nI s)), some (.int (b2i false)), some (.int (nI i + nI 1))] [] (odH h Of (upd Cn p (Cn p + nI 1))) Q from ?_)
        rw [nI_add]
        refine (show R (d + 1) 222 31 _ [] (odH h Of (bump Cn (some p))) Q from ?_)
        repeat (refine R_s kC9 rfl rfl ?_)
        refine R_get kC9 rfl (show (odH h Of (bump Cn (some p))).2 76 = mob k fed pl le fi (nI z.2.2.2.2.2.2) from hm.1) rfl ?_
        repeat (refine R_s kC9 rfl rfl ?_)
        refine R_ild kC9 rfl (show (odH h Of (bump Cn (some p))).2 77 = ints 106 G from hm.2.1) (k := 0) rfl (by decide) (by decide) ?_
        rw [h0]
        refine R_ge kC9 rfl rfl rfl (by omega) (by omega) (fun _ => kk _ _) (fun _ => ?_)
        repeat (refine R_s kC9 rfl rfl ?_)
        exact ZB_eq kC9 rfl (q := false) (fun _ => kk _ _) (fun q => by cases q)
theorem lp_ltO (d : Nat) (Q : Option Value → AH → Prop) (hm : mCel h k fed pl le fi G z) (hn : n ≤ 5) (h0 : G 0 = nI n) (hS : ∀ s, s < 32 → G (1 + s) = b2i (bt S s)) {Of : Nat → Int32} {od : List Nat} (hod : od.length = n) (hO : ∀ i p, od[i]? = some p → Of i = nI p ∧ p < 5) (kk : ∀ (Cn : Nat → Int32) (w2 w3 : Option Value), (∀ p, p < 5 → Cn p = nI (cntO S od p)) → R (d + 1) 222 63 [some (.ref 76), some (.int (nI 32)), w2, w3] [] (odH h Of Cn) Q) : ∀ (m s : Nat) (Cn : Nat → Int32) (w2 w3 : Option Value), s + m = 32 → (∀ p, p < 5 → Cn p = nI (cnt (ctB S od p) s)) → R (d + 1) 222 14 [some (.ref 76), some (.int (nI s)), w2, w3] [] (odH h Of Cn) Q := by
  have kC9 := co_MO_leadsTo
  intro m
  induction m with
  | zero =>
    intro s Cn w2 w3 hs h1
    have : s = 32 := by omega
    subst this
    repeat (refine R_s kC9 rfl rfl ?_)
    refine R_ge kC9 rfl (rfl) (rfl) (by omega) (by omega) (fun hc => ?_) (fun hc => ?_)
    · exact kk Cn w2 w3 h1
    · omega
  | succ m ih =>
    intro s Cn w2 w3 hs h1
    have ho : (odH h Of Cn).2 76 = mob k fed pl le fi (nI z.2.2.2.2.2.2) := hm.1
    have hg : (odH h Of Cn).2 77 = ints 106 G := hm.2.1
    have goon : ∀ (Cn' : Nat → Int32) (w2 w3 : Option Value), (∀ p, p < 5 → Cn' p = nI (cnt (ctB S od p) (s + 1))) → R (d + 1) 222 61 [some (.ref 76), some (.int (nI s)), w2, w3] [] (odH h Of Cn') Q := by
      intro Cn' w2 w3 h2
      repeat (refine R_s kC9 rfl rfl ?_)
      refine R_g kC9 rfl ?_
      refine (show R (d + 1) 222 14 [some (.ref 76), some (.int (nI s + nI 1)), w2, w3] [] (odH h Of Cn') Q from ?_)
      rw [nI_add]
      exact ih (s + 1) Cn' w2 w3 (by omega) h2
    repeat (refine R_s kC9 rfl rfl ?_)
    refine R_ge kC9 rfl (rfl) (rfl) (by omega) (by omega) (fun hc => ?_) (fun hc => ?_)
    · omega
    · repeat (refine R_s kC9 rfl rfl ?_)
      refine R_get kC9 rfl (ho) rfl ?_
      repeat (refine R_s kC9 rfl rfl ?_)
      refine R_ild kC9 rfl (hg) (nI_add 1 s) (by omega) (by decide) ?_
      rw [hS s (by omega), b2i_nI (bt S s)]
      repeat (refine R_s kC9 rfl rfl ?_)
      refine R_ne kC9 rfl rfl rfl (by cases bt S s <;> decide) (by decide) (fun hd => ?_) (fun hd => ?_)
      · have hbf : bt S s = false := (b2i_ne1 _).mp hd
        have hsame : ∀ p, p < 5 → Cn p = nI (cnt (ctB S od p) (s + 1)) := by
          intro p hp
          rw [h1 p hp]
          congr 1
          show _ = cnt (ctB S od p) s + (ctB S od p s).toNat
          unfold ctB
          rw [hbf]
          rfl
        iterate 4 (refine R_s kC9 rfl rfl ?_)
        refine (show R (d + 1) 222 31 [some (.ref 76), some (.int (nI s)), some (.int (b2i false)), some (.int (nI 0))] [] (odH h Of Cn) Q from ?_)
        repeat (refine R_s kC9 rfl rfl ?_)
        refine R_get kC9 rfl (ho) rfl ?_
        repeat (refine R_s kC9 rfl rfl ?_)
        refine R_ild kC9 rfl (hg) (rfl) (by decide) (by decide) ?_
        rw [h0]
        refine R_ge kC9 rfl (u := 0) rfl rfl (by omega) (by omega) (fun _ => goon Cn _ _ hsame) (fun _ => ?_)
        repeat (refine R_s kC9 rfl rfl ?_)
        exact ZB_eq kC9 rfl (q := false) (fun _ => goon Cn _ _ hsame) (fun q => by cases q)
      · have hbt : bt S s = true := by cases hq : bt S s with | true => rfl | false => rw [hq] at hd; cases hd
        iterate 1 (refine R_s kC9 rfl rfl ?_)
        refine R_g kC9 rfl ?_
        iterate 3 (refine R_s kC9 rfl rfl ?_)
        refine lp_ltI d Q hm hn h0 hod hO (by omega) n 0 (by omega) (fun w2 w3 => goon _ _ _ (fun p hp => ?_))
        rw [List.drop_zero]
        have e1 : cnt (ctB S od p) (s + 1) = cnt (ctB S od p) s + (decide (fstP od s = some p)).toNat := by
          show cnt (ctB S od p) s + (ctB S od p s).toNat = _
          unfold ctB
          rw [hbt, Bool.true_and]
        rw [e1]
        have e2 : od.find? (fun p => s.testBit p) = fstP od s := rfl
        rw [e2]
        cases hf : fstP od s with
        | none =>
          rw [decide_eq_false (by simp)]
          exact h1 p hp
        | some q =>
          unfold bump
          dsimp only
          by_cases e : p = q
          · subst e
            rw [pk_us, h1 p hp, nI_add, decide_eq_true rfl]
            rfl
          · rw [pk_un e, h1 p hp, decide_eq_false (fun z => e (Option.some.inj z).symm)]
            rfl
end
