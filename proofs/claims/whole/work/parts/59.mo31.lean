/-! THE REFERENCE, 30: leadsTo, orders -/
section
variable {h : AH} {k fed pl le fi : Int32} {G : Nat → Int32} {n : Nat} {S : Int32} {z : ZT}
theorem lp_ltC (d : Nat) (Q : Option Value → AH → Prop) (hm : mCel h k fed pl le fi G z) (hn : n ≤ 5) (h0 : G 0 = nI n) (hz : caZ n S z) (hb : c120 n S) {Of Cn : Nat → Int32} {od : List Nat} (hC : ∀ p, p < 5 → Cn p = nI (cntO S od p)) {c : Nat} (hcl : c < (cornS n S).length) (kk : R d 222 100 [some (.ref 76), some (.int (nI c)), some (.int (b2i (ldB n S od c))), some (.int (nI n))] [] (odH h Of Cn) Q) : ∀ (m p : Nat) (b : Bool), p + m = n → (b = true ↔ ∀ q, q < p → crow n S c q = cntO S od q) → R d 222 73 [some (.ref 76), some (.int (nI c)), some (.int (b2i b)), some (.int (nI p))] [] (odH h Of Cn) Q := by
  have kC9 := co_MO_leadsTo
  have ho : (odH h Of Cn).2 76 = mob k fed pl le fi (nI z.2.2.2.2.2.2) := hm.1
  have hg : (odH h Of Cn).2 77 = ints 106 G := hm.2.1
  have hst : (odH h Of Cn).2 86 = ints 600 z.2.2.2.2.1 := hm.2.2.2.2.2.2.1
  have hCc : (odH h Of Cn).2 91 = ints 5 Cn := rfl
  have hl : (cornS n S).length ≤ 120 := by rw [cornS_len]; exact hb
  intro m
  induction m with
  | zero =>
    intro p b hp hb2
    have : p = n := by omega
    subst this
    repeat (refine R_s kC9 rfl rfl ?_)
    refine R_get kC9 rfl (ho) rfl ?_
    repeat (refine R_s kC9 rfl rfl ?_)
    refine R_ild kC9 rfl (hg) (rfl) (by decide) (by decide) ?_
    rw [h0]
    refine R_ge kC9 rfl (rfl) (rfl) (by omega) (by omega) (fun hc => ?_) (fun hc => ?_)
    · have e : b = ldB p S od c := by
        unfold ldB
        cases b with
        | true => exact (pb_true.mpr (hb2.mp rfl)).symm
        | false => exact (pb_false.mpr (fun q => by have := hb2.mpr q; cases this)).symm
      rw [e]
      exact kk
    · omega
  | succ m ih =>
    intro p b hp hb2
    have goon : ∀ e : Bool, (e = true ↔ crow n S c p = cntO S od p) → R d 222 96 [some (.ref 76), some (.int (nI c)), some (.int (b2i b)), some (.int (nI p))] [.int (b2i e), .int (b2i b)] (odH h Of Cn) Q := by
      intro e he
      iterate 1 (refine R_s kC9 rfl rfl ?_)
      refine (show R d 222 97 _ [.int (b2i b &&& b2i e)] (odH h Of Cn) Q from ?_)
      rw [b2i_and]
      repeat (refine R_s kC9 rfl rfl ?_)
      refine R_g kC9 rfl ?_
      refine (show R d 222 73 [some (.ref 76), some (.int (nI c)), some (.int (b2i (b && e))), some (.int (nI p + nI 1))] [] (odH h Of Cn) Q from ?_)
      rw [nI_add]
      refine ih (p + 1) _ (by omega) ?_
      rw [Bool.and_eq_true, hb2, he]
      constructor
      · rintro ⟨x1, x2⟩ q hq
        by_cases e : q = p
        · subst e; exact x2
        · exact x1 q (by omega)
      · intro x
        exact ⟨fun q hq => x q (by omega), x p (by omega)⟩
    have l1 : crow n S c p ≤ 32 := rowF_le _ _ _ _
    have l2 : cntO S od p ≤ 32 := cnt_le _ _
    repeat (refine R_s kC9 rfl rfl ?_)
    refine R_get kC9 rfl (ho) rfl ?_
    repeat (refine R_s kC9 rfl rfl ?_)
    refine R_ild kC9 rfl (hg) (rfl) (by decide) (by decide) ?_
    rw [h0]
    refine R_ge kC9 rfl (rfl) (rfl) (by omega) (by omega) (fun hc => ?_) (fun hc => ?_)
    · omega
    · repeat (refine R_s kC9 rfl rfl ?_)
      refine R_get kC9 rfl (ho) rfl ?_
      repeat (refine R_s kC9 rfl rfl ?_)
      refine R_ild kC9 rfl hst (k := 5 * c + p) (show nI 5 * nI c + nI p = _ by rw [pk_mul, nI_add]) (by omega) (by decide) ?_
      rw [hz.st hcl (by omega)]
      repeat (refine R_s kC9 rfl rfl ?_)
      refine R_get kC9 rfl (ho) rfl ?_
      repeat (refine R_s kC9 rfl rfl ?_)
      refine R_ild kC9 rfl (hCc) (rfl) (by omega) (by decide) ?_
      rw [hC p (by omega)]
      refine R_ne kC9 rfl rfl rfl (by omega) (by omega) (fun q => ?_) (fun q => ?_)
      · iterate 1 (refine R_s kC9 rfl rfl ?_)
        exact goon false ⟨fun y => (by cases y), fun y => absurd y q⟩
      · iterate 1 (refine R_s kC9 rfl rfl ?_)
        refine R_g kC9 rfl ?_
        exact goon true ⟨fun _ => q, fun _ => rfl⟩
theorem lp_ltD (d : Nat) (hm : mCel h k fed pl le fi G z) (hn : n ≤ 5) (h0 : G 0 = nI n) (hz : caZ n S z) (hb : c120 n S) {Of Cn : Nat → Int32} {od : List Nat} (hC : ∀ p, p < 5 → Cn p = nI (cntO S od p)) : ∀ (m c : Nat) (w2 w3 : Option Value), c + m = (cornS n S).length → R d 222 65 [some (.ref 76), some (.int (nI c)), w2, w3] [] (odH h Of Cn) (fun r2 h2 => ∃ y : Nat → Int32, True ∧ r2 = some (.int (optI (ldF (ldB n S od) m c))) ∧ h2 = odH h Of y) := by
  have kC9 := co_MO_leadsTo
  have ho : (odH h Of Cn).2 76 = mob k fed pl le fi (nI (cornS n S).length) := by rw [← hz.2.2.1]; exact hm.1
  have hl : (cornS n S).length ≤ 120 := by rw [cornS_len]; exact hb
  intro m
  induction m with
  | zero =>
    intro c w2 w3 hc
    repeat (refine R_s kC9 rfl rfl ?_)
    refine R_get kC9 rfl (ho) rfl ?_
    refine R_ge kC9 rfl (rfl) (rfl) (by omega) (by omega) (fun hc => ?_) (fun hc => ?_)
    · repeat (refine R_s kC9 rfl rfl ?_)
      exact R_ri kC9 rfl ⟨Cn, trivial, rfl, rfl⟩
    · omega
  | succ m ih =>
    intro c w2 w3 hc
    rw [ldF_succ]
    repeat (refine R_s kC9 rfl rfl ?_)
    refine R_get kC9 rfl (ho) rfl ?_
    refine R_ge kC9 rfl (rfl) (rfl) (by omega) (by omega) (fun hc => ?_) (fun hc => ?_)
    · omega
    · iterate 4 (refine R_s kC9 rfl rfl ?_)
      refine lp_ltC d _ hm hn h0 hz hb hC (c := c) (by omega) ?_ n 0 true (by omega) ⟨fun _ q hq => by omega, fun _ => rfl⟩
      repeat (refine R_s kC9 rfl rfl ?_)
      refine ZB_eq kC9 rfl (fun q => ?_) (fun q => ?_)
      · rw [if_neg (by rw [q]; decide)]
        repeat (refine R_s kC9 rfl rfl ?_)
        refine R_g kC9 rfl ?_
        refine (show R d 222 65 [some (.ref 76), some (.int (nI c + nI 1)), _, _] [] (odH h Of Cn) _ from ?_)
        rw [nI_add]
        exact ih (c + 1) _ _ (by omega)
      · rw [if_pos q]
        repeat (refine R_s kC9 rfl rfl ?_)
        exact R_ri kC9 rfl ⟨Cn, trivial, rfl, rfl⟩
theorem sp_MO_leadsTo (d : Nat) (hm : mCel h k fed pl le fi G z) (hn : n ≤ 5) (h0 : G 0 = nI n) (hS : ∀ s, s < 32 → G (1 + s) = b2i (bt S s)) (hz : caZ n S z) (hb : c120 n S) {Of Cn : Nat → Int32} {od : List Nat} (hod : od.length = n) (hO : ∀ i p, od[i]? = some p → Of i = nI p ∧ p < 5) : ∃ y : Nat → Int32, True ∧ Cl (d + 1) 222 [.ref 76] (odH h Of Cn) (some (.int (optI (leadsN n S od)))) (odH h Of y) := by
  have kC9 := co_MO_leadsTo
  refine Cl_ex (f := fun _ => some (.int (optI (leadsN n S od)))) (g := fun y => odH h Of y) kC9 rfl rfl ?_
  iterate 2 (refine R_s kC9 rfl rfl ?_)
  refine lp_lt0 (d + 1) _ hm (fun Cn1 h1 => ?_) 5 0 Cn (by omega) (fun p hp => by omega)
  iterate 2 (refine R_s kC9 rfl rfl ?_)
  have e0 : ∀ p, cnt (ctB S od p) 1 = 0 := by
    intro p
    have : fstP od 0 = none := by
      unfold fstP
      rw [List.find?_eq_none]
      intro x _
      simp
    simp [cnt, ctB, this]
  refine lp_ltO d _ hm hn h0 hS hod hO (fun Cn2 w2 w3 h2 => ?_) 31 1 Cn1 none none (by omega) (fun p hp => by rw [h1 p hp, e0])
  iterate 2 (refine R_s kC9 rfl rfl ?_)
  exact lp_ltD (d + 1) hm hn h0 hz hb h2 (cornS n S).length 0 _ _ (by omega)
/-- how many orders that begin with od lead to a corner -/
def smF (f : Nat → Nat) : Nat → Nat
  | 0 => 0
  | p + 1 => smF f p + f p
theorem smF_succ (f : Nat → Nat) (p : Nat) : smF f (p + 1) = smF f p + f p := rfl
def clrB (l p : Nat) : Nat := l &&& (31 ^^^ 2 ^ p)
theorem clrB_eq : ∀ l, l < 32 → ∀ p, p < 5 → nI l &&& ((nI 1 <<< (nI p &&& 31)) ^^^ (-1)) = nI (clrB l p) := by decide +kernel
theorem clrB_lt (l p : Nat) (h : l < 32) : clrB l p < 32 := Nat.lt_of_le_of_lt Nat.and_le_left h
noncomputable def orF (n : Nat) (S : Int32) (c : Nat) : Nat → Nat → List Nat → Nat
  | 0, _, od => (decide (leadsN n S od = some c)).toNat
  | m + 1, l, od => smF (fun p => if l.testBit p = true then orF n S c m (clrB l p) (od ++ [p]) else 0) n
theorem orF_zero (n : Nat) (S : Int32) (c l : Nat) (od : List Nat) : orF n S c 0 l od = (decide (leadsN n S od = some c)).toNat := rfl
theorem orF_succ (n : Nat) (S : Int32) (c m l : Nat) (od : List Nat) : orF n S c (m + 1) l od = smF (fun p => if l.testBit p = true then orF n S c m (clrB l p) (od ++ [p]) else 0) n := rfl
theorem ldF_lt {P : Nat → Bool} : ∀ (m c o : Nat), ldF P m c = some o → c ≤ o ∧ o < c + m
  | 0, c, o, h => by cases h
  | m + 1, c, o, h => by
    rw [ldF_succ] at h
    split at h
    · cases h; omega
    · have := ldF_lt m (c + 1) o h
      omega
theorem optI_eq {o : Option Nat} {c : Nat} (hc : c < 2 ^ 31) (ho : ∀ q, o = some q → q < 2 ^ 31) : optI o = nI c ↔ o = some c := by
  cases o with
  | none =>
    constructor
    · intro q
      have q : (-5 : Int32) = nI c := q
      have e1 : (nI c).toInt = (c : Int) := nI_toInt hc
      rw [← q] at e1
      have e5 : (-5 : Int32).toInt = -5 := by decide
      omega
    · intro q; cases q
  | some q =>
    constructor
    · intro e
      have := (nI_eq (ho q rfl) hc).mp e
      rw [this]
    · intro e; cases e; rfl
def OdA (od : List Nat) (Of : Nat → Int32) : Prop := ∀ i p, od[i]? = some p → Of i = nI p ∧ p < 5
theorem OdA.push {od : List Nat} {Of : Nat → Int32} (h : OdA od Of) {p : Nat} (hp : p < 5) : OdA (od ++ [p]) (upd Of od.length (nI p)) := by
  intro i q hq
  rcases Nat.lt_or_ge i od.length with c | c
  · rw [List.getElem?_append_left c] at hq
    rw [pk_un (by omega)]
    exact h i q hq
  · have hlt := (List.getElem?_eq_some_iff.mp hq).1
    rw [List.length_append] at hlt
    have : i = od.length := by simp at hlt; omega
    subst this
    rw [List.getElem?_append_right (Nat.le_refl _), Nat.sub_self] at hq
    have hz : p = q := by simpa using hq
    subst hz
    exact ⟨pk_us, hp⟩
theorem sp_MO_ordersFrom (d : Nat) (hm : mCel h k fed pl le fi G z) (hn : n ≤ 5) (h0 : G 0 = nI n) (hS : ∀ s, s < 32 → G (1 + s) = b2i (bt S s)) (hz : caZ n S z) (hb : c120 n S) {c : Nat} (hc : c < (cornS n S).length) : ∀ (m l : Nat) (od : List Nat) (Of Cn : Nat → Int32), od.length + m = n → l < 32 → OdA od Of → ∃ y : (Nat → Int32) × (Nat → Int32), OdA od y.1 ∧ Cl (d + m + 2) 223 [.ref 76, .int (nI od.length), .int (nI l), .int (nI c)] (odH h Of Cn) (some (.int (nI (orF n S c m l od)))) (odH h y.1 y.2) := by
  have kC9 := co_MO_ordersFrom
  have hl : (cornS n S).length ≤ 120 := by rw [cornS_len]; exact hb
  intro m
  induction m with
  | zero =>
    intro l od Of Cn hod hl32 hO
    rw [orF_zero]
    obtain ⟨y, _, hcl⟩ := sp_MO_leadsTo (Cn := Cn) d hm hn h0 hS hz hb (od := od) (by omega) hO
    refine ⟨(Of, y), hO, Cl_of kC9 rfl rfl ?_⟩
    have ho : (odH h Of Cn).2 76 = mob k fed pl le fi (nI z.2.2.2.2.2.2) := hm.1
    have hg : (odH h Of Cn).2 77 = ints 106 G := hm.2.1
    have heq := optI_eq (o := leadsN n S od) (c := c) (by omega) (fun q hq => by have := ldF_lt _ _ _ hq; omega)
    repeat (refine R_s kC9 rfl rfl ?_)
    refine R_get kC9 rfl (ho) rfl ?_
    repeat (refine R_s kC9 rfl rfl ?_)
    refine R_ild kC9 rfl (hg) (rfl) (by decide) (by decide) ?_
    rw [h0]
    refine R_ne kC9 rfl rfl rfl (by omega) (by omega) (fun q => by omega) (fun _ => ?_)
    repeat (refine R_s kC9 rfl rfl ?_)
    refine R_cv kC9 rfl rfl rfl rfl ho (by decide) hcl ?_
    repeat (refine R_s kC9 rfl rfl ?_)
    refine Rr_ne kC9 rfl (fun q => ?_) (fun q => ?_)
    · repeat (refine R_s kC9 rfl rfl ?_)
      refine R_ri kC9 rfl ⟨?_, rfl⟩
      rw [decide_eq_false (fun e => q (heq.mpr e))]
      rfl
    · repeat (refine R_s kC9 rfl rfl ?_)
      refine R_g kC9 rfl ?_
      refine R_ri kC9 rfl ⟨?_, rfl⟩
      rw [decide_eq_true (heq.mp q)]
      rfl
  | succ m ih =>
    intro l od Of Cn hod hl32 hO
    rw [orF_succ]
    have loop : ∀ (j p : Nat) (Of Cn : Nat → Int32), p + j = n → OdA od Of → R (d + m + 3) 223 18 [some (.ref 76), some (.int (nI od.length)), some (.int (nI l)), some (.int (nI c)), some (.int (nI (smF (fun p => if l.testBit p = true then orF n S c m (clrB l p) (od ++ [p]) else 0) p))), some (.int (nI p))] [] (odH h Of Cn) (fun r2 h2 => ∃ y : (Nat → Int32) × (Nat → Int32), OdA od y.1 ∧ r2 = some (.int (nI (smF (fun p => if l.testBit p = true then orF n S c m (clrB l p) (od ++ [p]) else 0) n))) ∧ h2 = odH h y.1 y.2) := by
      intro j
      induction j with
      | zero =>
        intro p Of Cn hp hO
        have ho : (odH h Of Cn).2 76 = mob k fed pl le fi (nI z.2.2.2.2.2.2) := hm.1
        have hg : (odH h Of Cn).2 77 = ints 106 G := hm.2.1
        repeat (refine R_s kC9 rfl rfl ?_)
        refine R_get kC9 rfl (ho) rfl ?_
        repeat (refine R_s kC9 rfl rfl ?_)
        refine R_ild kC9 rfl (hg) (rfl) (by decide) (by decide) ?_
        rw [h0]
        refine R_ge kC9 rfl (rfl) (rfl) (by omega) (by omega) (fun hc => ?_) (fun hc => ?_)
        · repeat (refine R_s kC9 rfl rfl ?_)
          have : p = n := by omega
          subst this
          exact R_ri kC9 rfl ⟨(Of, Cn), hO, rfl, rfl⟩
        · omega
      | succ j jh =>
        intro p Of Cn hp hO
        have ho : (odH h Of Cn).2 76 = mob k fed pl le fi (nI z.2.2.2.2.2.2) := hm.1
        have hg : (odH h Of Cn).2 77 = ints 106 G := hm.2.1
        have hOc : (odH h Of Cn).2 90 = ints 5 Of := rfl
        repeat (refine R_s kC9 rfl rfl ?_)
        refine R_get kC9 rfl (ho) rfl ?_
        repeat (refine R_s kC9 rfl rfl ?_)
        refine R_ild kC9 rfl (hg) (rfl) (by decide) (by decide) ?_
        rw [h0]
        refine R_ge kC9 rfl (rfl) (rfl) (by omega) (by omega) (fun hc => ?_) (fun hc => ?_)
        · omega
        · repeat (refine R_s kC9 rfl rfl ?_)
          refine R_cs kC9 rfl rfl rfl rfl (sp_MO_has (d + m + 2) (s := l) (k := p) (by omega) (by omega) (odH h Of Cn)) ?_
          have e1 : smF (fun p => if l.testBit p = true then orF n S c m (clrB l p) (od ++ [p]) else 0) (p + 1) = smF (fun p => if l.testBit p = true then orF n S c m (clrB l p) (od ++ [p]) else 0) p + (if l.testBit p = true then orF n S c m (clrB l p) (od ++ [p]) else 0) := rfl
          refine ZB_eq kC9 rfl (fun q => ?_) (fun q => ?_)
          · repeat (refine R_s kC9 rfl rfl ?_)
            refine R_g kC9 rfl ?_
            refine (show R (d + m + 3) 223 18 [some (.ref 76), some (.int (nI od.length)), some (.int (nI l)), some (.int (nI c)), some (.int (nI (smF (fun p => if l.testBit p = true then orF n S c m (clrB l p) (od ++ [p]) else 0) p))), some (.int (nI p + nI 1))] [] (odH h Of Cn) _ from ?_)
            rw [nI_add]
            have := jh (p + 1) Of Cn (by omega) hO
            rw [e1, if_neg (by rw [q]; decide), Nat.add_zero] at this
            exact this
          · obtain ⟨⟨Of2, Cn2⟩, hO2, hcl⟩ := ih (clrB l p) (od ++ [p]) (upd Of od.length (nI p)) Cn (by rw [List.length_append]; simp; omega) (clrB_lt l p hl32) (hO.push (by omega))
            dsimp only at hO2 hcl
            have hlen : (od ++ [p]).length = od.length + 1 := by rw [List.length_append]; rfl
            rw [hlen] at hcl
            repeat (refine R_s kC9 rfl rfl ?_)
            refine R_get kC9 rfl (ho) rfl ?_
            repeat (refine R_s kC9 rfl rfl ?_)
            refine R_ist kC9 rfl (hOc) (by decide) (rfl) (by omega) (by decide) ?_
            rw [odH_O]
            repeat (refine R_s kC9 rfl rfl ?_)
            refine (show R (d + m + 3) 223 46 _ [.int (nI c), .int (nI l &&& ((nI 1 <<< (nI p &&& 31)) ^^^ (-1))), .int (nI od.length + nI 1), .ref 76, .int _] (odH h (upd Of od.length (nI p)) Cn) _ from ?_)
            rw [clrB_eq l hl32 p (by omega), nI_add od.length 1]
            refine R_cv kC9 rfl rfl rfl rfl (show (odH h (upd Of od.length (nI p)) Cn).2 76 = mob k fed pl le fi (nI z.2.2.2.2.2.2) from hm.1) (by decide) hcl ?_
            repeat (refine R_s kC9 rfl rfl ?_)
            refine R_g kC9 rfl ?_
            refine (show R (d + m + 3) 223 18 [some (.ref 76), some (.int (nI od.length)), some (.int (nI l)), some (.int (nI c)), some (.int (nI (smF (fun p => if l.testBit p = true then orF n S c m (clrB l p) (od ++ [p]) else 0) p) + nI (orF n S c m (clrB l p) (od ++ [p])))), some (.int (nI p + nI 1))] [] (odH h Of2 Cn2) _ from ?_)
            rw [nI_add, nI_add]
            have hO3 : OdA od Of2 := fun i x hx => hO2 i x (by rw [List.getElem?_append_left (List.getElem?_eq_some_iff.mp hx).1]; exact hx)
            have := jh (p + 1) Of2 Cn2 (by omega) hO3
            rw [e1, if_pos q] at this
            exact this
    refine Cl_ex (f := fun _ => some (.int (nI (smF (fun p => if l.testBit p = true then orF n S c m (clrB l p) (od ++ [p]) else 0) n)))) (g := fun (y : (Nat → Int32) × (Nat → Int32)) => odH h y.1 y.2) kC9 rfl rfl ?_
    have ho : (odH h Of Cn).2 76 = mob k fed pl le fi (nI z.2.2.2.2.2.2) := hm.1
    have hg : (odH h Of Cn).2 77 = ints 106 G := hm.2.1
    repeat (refine R_s kC9 rfl rfl ?_)
    refine R_get kC9 rfl (ho) rfl ?_
    repeat (refine R_s kC9 rfl rfl ?_)
    refine R_ild kC9 rfl (hg) (rfl) (by decide) (by decide) ?_
    rw [h0]
    refine R_ne kC9 rfl rfl rfl (by omega) (by omega) (fun _ => ?_) (fun q => by omega)
    iterate 4 (refine R_s kC9 rfl rfl ?_)
    exact loop n 0 Of Cn (by omega) hO
end
