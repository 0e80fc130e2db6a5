/-! THE REFERENCE, 8: lines, chosen sets -/
theorem b2i_and (x y : Bool) : b2i x &&& b2i y = b2i (x && y) := by cases x <;> cases y <;> decide
def idxF (v : Int32) : List Nat → Nat → Option Nat
  | [], _ => none
  | x :: t, i => if nI x = v then some i else idxF v t (i + 1)
theorem idxF_cons (v : Int32) (x : Nat) (t : List Nat) (i : Nat) : idxF v (x :: t) i = if nI x = v then some i else idxF v t (i + 1) := rfl
def idxR (ch : List Nat) (v : Int32) : Int32 := match idxF v ch 0 with
  | some i => nI i
  | none => -1
theorem idxF_lt {v : Int32} : ∀ (l : List Nat) (i j : Nat), idxF v l i = some j → i ≤ j ∧ j < i + l.length ∧ ∃ x, l[j - i]? = some x ∧ nI x = v
  | [], i, j, h => by cases h
  | x :: t, i, j, h => by
    unfold idxF at h
    split at h
    · rename_i hx
      cases h
      exact ⟨Nat.le_refl _, by simp, x, by simp, hx⟩
    · obtain ⟨h1, h2, y, h3, h4⟩ := idxF_lt t (i + 1) j h
      refine ⟨by omega, by simp only [List.length_cons]; omega, y, ?_, h4⟩
      rw [show j - i = (j - (i + 1)) + 1 by omega, List.getElem?_cons_succ]
      exact h3
theorem drop_cons {α : Type} {l : List α} {i : Nat} {x : α} (h : l[i]? = some x) : l.drop i = x :: l.drop (i + 1) := by
  obtain ⟨hi, rfl⟩ := List.getElem?_eq_some_iff.mp h
  exact List.drop_eq_getElem_cons hi
/-- one of two sets lies within the other, or they don't meet -/
def lam (t s : Nat) : Prop := t &&& s = 0 ∨ t &&& s = t ∨ t &&& s = s
/-- s and those of ns (the first k) that a mask picks -/
def unN (ns : List Nat) (sm s : Nat) : Nat → Nat
  | 0 => s
  | i + 1 => if sm.testBit i = true then unN ns sm s i ||| ns.getD i 0 else unN ns sm s i
theorem unN_succ (ns : List Nat) (sm s i : Nat) : unN ns sm s (i + 1) = if sm.testBit i = true then unN ns sm s i ||| ns.getD i 0 else unN ns sm s i := rfl
def apN (ns : List Nat) (sm s k : Nat) : Prop := ∀ i, i < k → sm.testBit i = true → (unN ns sm s i) &&& ns.getD i 0 = 0
/-- a set may come to a nest -/
def TakesR (S : Int32) (ns : List Nat) (s : Nat) : Prop := (∀ t ∈ ns, lam t s) ∧ ∀ sm, 1 ≤ sm → sm < 2 ^ ns.length → apN ns sm s ns.length → bt S (unN ns sm s ns.length) = false
theorem unN_lt {ns : List Nat} {sm s : Nat} (hs : s < 32) (hns : ∀ t ∈ ns, t < 32) : ∀ i, unN ns sm s i < 32
  | 0 => hs
  | i + 1 => by
    unfold unN
    split
    · refine Nat.or_lt_two_pow (n := 5) (unN_lt hs hns i) ?_
      rw [List.getD_eq_getElem?_getD]
      cases hq : ns[i]? with
      | none => decide
      | some t => exact hns t (List.mem_of_getElem? hq)
    · exact unN_lt hs hns i
section
variable {h : AH} {k fed pl le fi co : Int32} {G : Nat → Int32} {U : US}
theorem sp_MO_line (d : Nat) (ho : h.2 76 = mob k fed pl le fi co) (hg : h.2 77 = ints 106 G) (hU : GU U G) (hn : U.1 ≤ 5) (hn1 : 1 ≤ U.1) (a b is : Int32) : ∃ G', GU (specLine U a b is).2 G' ∧ Cl (d + 3) 173 [.ref 76, .int a, .int b, .int is] h (some (.int (specLine U a b is).1)) (upH h 77 (ints 106 G')) := by
  have kC9 := co_MO_line
  by_cases h2 : twoB U.1 a b = true
  · by_cases hv : 0 ≤ is.toInt ∧ is.toInt ≤ 1
    · have h2' := h2
      unfold twoB at h2'
      simp only [Bool.and_eq_true, Bool.not_eq_true', decide_eq_false_iff_not] at h2'
      obtain ⟨⟨ha, hb⟩, hne⟩ := h2'
      obtain ⟨x, hx, hx31, rfl⟩ := ptB_of ha
      obtain ⟨y, hy, hy31, rfl⟩ := ptB_of hb
      have hxy : x ≠ y := fun q => hne (by rw [q])
      obtain ⟨v, v1, v2, v3, rfl⟩ := rng_nI (a := 0) (b := 1) hv
      have e : specLine U (nI x) (nI y) (nI v) = (b2i (lnB U.2.2.1 x y), (U.1, U.2.1, setL U.2.2.1 x y (decide (nI v = 1)), U.2.2.2)) := by unfold specLine; rw [if_pos h2, if_pos hv, nI_clamp hx31, nI_clamp hy31]
      rw [e]
      have hlx : lnX x y < 25 := by unfold lnX; split <;> omega
      have hq1 : lnX x y / 5 < lnX x y % 5 := by unfold lnX; split <;> omega
      have hq2 : lnX x y = 5 * x + y ∨ lnX x y = 5 * y + x := by unfold lnX; split <;> omega
      have eG : G (33 + lnX x y) = b2i (lnB U.2.2.1 x y) := by
        rw [hU.2.2.1 _ hlx, decide_eq_true hq1, Bool.true_and]
        rfl
      refine ⟨upd G (33 + lnX x y) (nI v), ⟨by rw [pk_un (by omega)]; exact hU.1, fun s hs => by rw [pk_un (by omega)]; exact hU.2.1 s hs, fun q hq => ?_, ⟨by rw [pk_un (by omega)]; exact hU.2.2.2.1.1, fun i z hz => by rw [pk_un (by omega)]; exact hU.2.2.2.1.2 i z hz⟩, ⟨by rw [pk_un (by omega)]; exact hU.2.2.2.2.1.1, fun i z hz => by rw [pk_un (by omega), pk_un (by omega)]; exact hU.2.2.2.2.1.2 i z hz⟩, ⟨by rw [pk_un (by omega)]; exact hU.2.2.2.2.2.1.1, fun i z hz => by rw [pk_un (by omega), pk_un (by omega)]; exact hU.2.2.2.2.2.1.2 i z hz⟩, ⟨by rw [pk_un (by omega)]; exact hU.2.2.2.2.2.2.1, fun i z hz => by rw [pk_un (by omega), pk_un (by omega)]; exact hU.2.2.2.2.2.2.2 i z hz⟩⟩, ?_⟩
      · dsimp only
        unfold setL
        rw [maskOf_bt _ (by omega)]
        by_cases eq1 : q = lnX x y
        · subst eq1
          rw [pk_us, decide_eq_true hq1, Bool.true_and, if_pos hq2]
          rcases (show v = 0 ∨ v = 1 by omega) with rfl | rfl <;> rfl
        · rw [pk_un (by omega), hU.2.2.1 q hq]
          by_cases hor : q / 5 < q % 5
          · rw [if_neg]
            rintro (q1 | q1)
            · apply eq1; unfold lnX; split <;> omega
            · apply eq1; unfold lnX; split <;> omega
          · rw [decide_eq_false hor]; rfl
      · refine Cl_of kC9 rfl rfl ?_
        repeat (refine R_s kC9 rfl rfl ?_)
        refine R_cv kC9 rfl rfl rfl rfl (ho) (by decide) (sp_MO_areTwo d ho hg hn hn1 hU.1 (nI x) (nI y)) ?_
        refine ZB_ne kC9 rfl (fun _ => ?_) (fun hc => by rw [h2] at hc; cases hc)
        repeat (refine R_s kC9 rfl rfl ?_)
        refine R_cs kC9 rfl rfl rfl rfl (sp_MO_isIn (d + 2) _ _ _ h) ?_
        refine ZB_ne kC9 rfl (fun _ => ?_) (fun hc => ?_)
        · repeat (refine R_s kC9 rfl rfl ?_)
          refine R_get kC9 rfl (ho) rfl ?_
          repeat (refine R_s kC9 rfl rfl ?_)
          refine R_cv kC9 rfl rfl rfl rfl (ho) (by decide) (sp_MO_lineAt (d + 2) (by omega) (by omega)) ?_
          refine R_ild kC9 rfl (hg) (rfl) (by omega) (by decide) ?_
          rw [eG]
          repeat (refine R_s kC9 rfl rfl ?_)
          refine R_get kC9 rfl (ho) rfl ?_
          repeat (refine R_s kC9 rfl rfl ?_)
          refine R_cv kC9 rfl rfl rfl rfl (ho) (by decide) (sp_MO_lineAt (d + 2) (by omega) (by omega)) ?_
          repeat (refine R_s kC9 rfl rfl ?_)
          refine R_ist kC9 rfl (hg) (by decide) (rfl) (by omega) (by decide) ?_
          repeat (refine R_s kC9 rfl rfl ?_)
          exact R_ri kC9 rfl ⟨rfl, rfl⟩
        · rw [decide_eq_false_iff_not, Int32.toInt_toInt64] at hc
          exact absurd hv hc
    · have e : specLine U a b is = (-2, U) := by unfold specLine; rw [if_pos h2, if_neg hv]
      rw [e]
      refine ⟨G, hU, ?_⟩
      rw [upH_self hg]
      refine Cl_of kC9 rfl rfl ?_
      repeat (refine R_s kC9 rfl rfl ?_)
      refine R_cv kC9 rfl rfl rfl rfl (ho) (by decide) (sp_MO_areTwo d ho hg hn hn1 hU.1 a b) ?_
      refine ZB_ne kC9 rfl (fun _ => ?_) (fun hc => by rw [h2] at hc; cases hc)
      repeat (refine R_s kC9 rfl rfl ?_)
      refine R_cs kC9 rfl rfl rfl rfl (sp_MO_isIn (d + 2) _ _ _ h) ?_
      refine ZB_ne kC9 rfl (fun hc => ?_) (fun _ => ?_)
      · rw [decide_eq_true_eq, Int32.toInt_toInt64] at hc
        exact absurd hc hv
      · repeat (refine R_s kC9 rfl rfl ?_)
        exact R_ri kC9 rfl ⟨rfl, rfl⟩
  · have e : specLine U a b is = (-1, U) := by unfold specLine; rw [if_neg h2]
    rw [e]
    refine ⟨G, hU, ?_⟩
    rw [upH_self hg]
    refine Cl_of kC9 rfl rfl ?_
    repeat (refine R_s kC9 rfl rfl ?_)
    refine R_cv kC9 rfl rfl rfl rfl (ho) (by decide) (sp_MO_areTwo d ho hg hn hn1 hU.1 a b) ?_
    refine ZB_ne kC9 rfl (fun hc => absurd hc h2) (fun _ => ?_)
    repeat (refine R_s kC9 rfl rfl ?_)
    exact R_ri kC9 rfl ⟨rfl, rfl⟩
theorem lp_chosenAt (d : Nat) (ho : h.2 76 = mob k fed pl le fi co) (hg : h.2 77 = ints 106 G) {ch : List Nat} (h58 : G 58 = nI ch.length) (hch : ∀ i x, ch[i]? = some x → G (59 + i) = nI x) (hl : ch.length ≤ 4) (v : Int32) : ∀ (m i : Nat), i + m = ch.length → idxF v ch 0 = idxF v (ch.drop i) i → R d 175 2 [some (.ref 76), some (.int v), some (.int (nI i))] [] h (fun r2 h2 => r2 = some (.int (idxR ch v)) ∧ h2 = h) := by
  have kC9 := co_MO_chosenAt
  intro m
  induction m with
  | zero =>
    intro i hi he
    repeat (refine R_s kC9 rfl rfl ?_)
    refine R_get kC9 rfl (ho) rfl ?_
    repeat (refine R_s kC9 rfl rfl ?_)
    refine R_ild kC9 rfl (hg) (rfl) (by decide) (by decide) ?_
    rw [h58]
    refine R_ge kC9 rfl (rfl) (rfl) (by omega) (by omega) (fun hc => ?_) (fun hc => ?_)
    · repeat (refine R_s kC9 rfl rfl ?_)
      refine R_ri kC9 rfl ⟨?_, rfl⟩
      unfold idxR
      rw [he, List.drop_eq_nil_of_le (by omega)]
      rfl
    · omega
  | succ m ih =>
    intro i hi he
    repeat (refine R_s kC9 rfl rfl ?_)
    refine R_get kC9 rfl (ho) rfl ?_
    repeat (refine R_s kC9 rfl rfl ?_)
    refine R_ild kC9 rfl (hg) (rfl) (by decide) (by decide) ?_
    rw [h58]
    refine R_ge kC9 rfl (rfl) (rfl) (by omega) (by omega) (fun hc => ?_) (fun hc => ?_)
    · omega
    · obtain ⟨x, hx⟩ : ∃ x, ch[i]? = some x := ⟨ch[i], List.getElem?_eq_getElem hc⟩
      repeat (refine R_s kC9 rfl rfl ?_)
      refine R_get kC9 rfl (ho) rfl ?_
      repeat (refine R_s kC9 rfl rfl ?_)
      refine R_ild kC9 rfl (hg) (nI_add 59 i) (by omega) (by decide) ?_
      rw [hch i x hx]
      rw [drop_cons hx, idxF_cons] at he
      repeat (refine R_s kC9 rfl rfl ?_)
      refine Rr_ne kC9 rfl (fun hd => ?_) (fun hd => ?_)
      · repeat (refine R_s kC9 rfl rfl ?_)
        refine R_g kC9 rfl ?_
        refine (show R d 175 2 [some (.ref 76), some (.int v), some (.int (nI i + nI 1))] [] h _ from ?_)
        rw [nI_add]
        refine ih (i + 1) (by omega) ?_
        rw [if_neg hd] at he
        exact he
      · repeat (refine R_s kC9 rfl rfl ?_)
        refine R_ri kC9 rfl ⟨?_, rfl⟩
        unfold idxR
        rw [if_pos hd] at he
        rw [he]
theorem sp_MO_chosenAt (d : Nat) (ho : h.2 76 = mob k fed pl le fi co) (hg : h.2 77 = ints 106 G) {ch : List Nat} (h58 : G 58 = nI ch.length) (hch : ∀ i x, ch[i]? = some x → G (59 + i) = nI x) (hl : ch.length ≤ 4) (v : Int32) : Cl d 175 [.ref 76, .int v] h (some (.int (idxR ch v))) h := by
  have kC9 := co_MO_chosenAt
  refine Cl_of kC9 rfl rfl ?_
  iterate 2 (refine R_s kC9 rfl rfl ?_)
  exact lp_chosenAt d ho hg h58 hch hl v ch.length 0 (by omega) rfl
/-- isNested: first loop -/
theorem lp_nestA (d : Nat) (Q : Option Value → AH → Prop) {N : Nat → Int32} (ho : h.2 76 = mob k fed pl le fi co) (hN : h.2 80 = ints 5 N) {ns : List Nat} (hns : ∀ i x, ns[i]? = some x → N i = nI x) (h32 : ∀ t ∈ ns, t < 32) (hl : ns.length ≤ 4) {s : Nat} (hs : s < 32) (bad : (¬ ∀ t ∈ ns, lam t s) → Q (some (.int (nI 0))) h) (kk : (∀ t ∈ ns, lam t s) → ∀ w3 w4 : Option Value, R d 174 27 [some (.ref 76), some (.int (nI ns.length)), some (.int (nI s)), w3, w4, none, none] [] h Q) : ∀ (m i : Nat) (w4 : Option Value), i + m = ns.length → (∀ t ∈ ns.take i, lam t s) → R d 174 2 [some (.ref 76), some (.int (nI ns.length)), some (.int (nI s)), some (.int (nI i)), w4, none, none] [] h Q := by
  have kC9 := co_MO_isNested
  intro m
  induction m with
  | zero =>
    intro i w4 hi hp
    repeat (refine R_s kC9 rfl rfl ?_)
    refine R_ge kC9 rfl (rfl) (rfl) (by omega) (by omega) (fun hc => ?_) (fun hc => ?_)
    · exact kk (by rw [List.take_of_length_le (by omega)] at hp; exact hp) _ _
    · omega
  | succ m ih =>
    intro i w4 hi hp
    repeat (refine R_s kC9 rfl rfl ?_)
    refine R_ge kC9 rfl (rfl) (rfl) (by omega) (by omega) (fun hc => ?_) (fun hc => ?_)
    · omega
    · obtain ⟨x, hx⟩ : ∃ x, ns[i]? = some x := ⟨ns[i], List.getElem?_eq_getElem hc⟩
      have hx32 := h32 x (List.mem_of_getElem? hx)
      have hand : x &&& s < 32 := Nat.lt_of_le_of_lt Nat.and_le_left hx32
      have goon : lam x s → R d 174 25 [some (.ref 76), some (.int (nI ns.length)), some (.int (nI s)), some (.int (nI i)), some (.int (nI (x &&& s))), none, none] [] h Q := by
        intro hlam
        repeat (refine R_s kC9 rfl rfl ?_)
        refine R_g kC9 rfl ?_
        refine (show R d 174 2 [some (.ref 76), some (.int (nI ns.length)), some (.int (nI s)), some (.int (nI i + nI 1)), some (.int (nI (x &&& s))), none, none] [] h Q from ?_)
        rw [nI_add]
        refine ih (i + 1) _ (by omega) (fun t ht => ?_)
        rw [List.take_succ, hx] at ht
        rcases List.mem_append.mp ht with q | q
        · exact hp t q
        · have : t = x := by simpa using q
          subst this
          exact hlam
      repeat (refine R_s kC9 rfl rfl ?_)
      refine R_get kC9 rfl (ho) rfl ?_
      repeat (refine R_s kC9 rfl rfl ?_)
      refine R_ild kC9 rfl (hN) (rfl) (by omega) (by decide) ?_
      rw [hns i x hx]
      iterate 2 (refine R_s kC9 rfl rfl ?_)
      refine (show R d 174 11 _ [.int (nI x &&& nI s)] h Q from ?_)
      rw [nx_and]
      repeat (refine R_s kC9 rfl rfl ?_)
      refine Z_eq kC9 rfl rfl (by omega) (fun h0 => goon (Or.inl h0)) (fun h0 => ?_)
      repeat (refine R_s kC9 rfl rfl ?_)
      refine R_get kC9 rfl (ho) rfl ?_
      repeat (refine R_s kC9 rfl rfl ?_)
      refine R_ild kC9 rfl (hN) (rfl) (by omega) (by decide) ?_
      rw [hns i x hx]
      refine R_eq kC9 rfl rfl rfl (by omega) (by omega) (fun h1 => goon (Or.inr (Or.inl h1))) (fun h1 => ?_)
      repeat (refine R_s kC9 rfl rfl ?_)
      refine R_eq kC9 rfl rfl rfl (by omega) (by omega) (fun h2 => goon (Or.inr (Or.inr h2))) (fun h2 => ?_)
      repeat (refine R_s kC9 rfl rfl ?_)
      exact R_rz kC9 rfl (Or.inl rfl) (bad (fun q => by
        rcases q x (List.mem_of_getElem? hx) with q | q | q
        · exact h0 q
        · exact h1 q
        · exact h2 q))
/-- isNested: the picks of one mask -/
theorem lp_nestC (d : Nat) (Q : Option Value → AH → Prop) {N : Nat → Int32} (ho : h.2 76 = mob k fed pl le fi co) (hN : h.2 80 = ints 5 N) {ns : List Nat} (hns : ∀ i x, ns[i]? = some x → N i = nI x) (h32 : ∀ t ∈ ns, t < 32) (hl : ns.length ≤ 4) {s sm : Nat} (hs : s < 32) (hsm : sm < 16) (kk : R (d + 1) 174 69 [some (.ref 76), some (.int (nI ns.length)), some (.int (nI s)), some (.int (nI sm)), some (.int (nI (unN ns sm s ns.length))), some (.int (b2i (pb (apN ns sm s ns.length)))), some (.int (nI ns.length))] [] h Q) : ∀ (m i : Nat), i + m = ns.length → R (d + 1) 174 40 [some (.ref 76), some (.int (nI ns.length)), some (.int (nI s)), some (.int (nI sm)), some (.int (nI (unN ns sm s i))), some (.int (b2i (pb (apN ns sm s i)))), some (.int (nI i))] [] h Q := by
  have kC9 := co_MO_isNested
  intro m
  induction m with
  | zero =>
    intro i hi
    have : i = ns.length := by omega
    subst this
    repeat (refine R_s kC9 rfl rfl ?_)
    refine R_ge kC9 rfl (rfl) (rfl) (by omega) (by omega) (fun hc => ?_) (fun hc => ?_)
    · exact kk
    · omega
  | succ m ih =>
    intro i hi
    have goon : ∀ (all : Nat) (ap : Bool), all = unN ns sm s (i + 1) → ap = pb (apN ns sm s (i + 1)) → R (d + 1) 174 67 [some (.ref 76), some (.int (nI ns.length)), some (.int (nI s)), some (.int (nI sm)), some (.int (nI all)), some (.int (b2i ap)), some (.int (nI i))] [] h Q := by
      intro all ap e1 e2
      subst e1; subst e2
      repeat (refine R_s kC9 rfl rfl ?_)
      refine R_g kC9 rfl ?_
      refine (show R (d + 1) 174 40 [some (.ref 76), some (.int (nI ns.length)), some (.int (nI s)), some (.int (nI sm)), some (.int (nI (unN ns sm s (i + 1)))), some (.int (b2i (pb (apN ns sm s (i + 1))))), some (.int (nI i + nI 1))] [] h Q from ?_)
      rw [nI_add]
      exact ih (i + 1) (by omega)
    repeat (refine R_s kC9 rfl rfl ?_)
    refine R_ge kC9 rfl (rfl) (rfl) (by omega) (by omega) (fun hc => ?_) (fun hc => ?_)
    · omega
    · obtain ⟨x, hx⟩ : ∃ x, ns[i]? = some x := ⟨ns[i], List.getElem?_eq_getElem hc⟩
      have hx32 := h32 x (List.mem_of_getElem? hx)
      have hgd : ns.getD i 0 = x := by rw [List.getD_eq_getElem?_getD, hx]; rfl
      have hu := unN_lt (sm := sm) hs h32 i
      repeat (refine R_s kC9 rfl rfl ?_)
      refine R_cs kC9 rfl rfl rfl rfl (sp_MO_has d (by omega) (by omega) h) ?_
      refine ZB_eq kC9 rfl (fun hc => ?_) (fun hc => ?_)
      · refine goon _ _ (by rw [unN_succ, if_neg (by rw [hc]; decide)]) ?_
        have : apN ns sm s (i + 1) ↔ apN ns sm s i := ⟨fun q j hj => q j (by omega), fun q j hj hb => by
          rcases Nat.lt_or_ge j i with q1 | q1
          · exact q j q1 hb
          · have : j = i := by omega
            subst this
            rw [hc] at hb; cases hb⟩
        rw [show (apN ns sm s (i + 1)) = (apN ns sm s i) from propext this]
      · have hbit := hc
        have hstep : ∀ z : Bool, (z = decide (unN ns sm s i &&& x = 0)) → (pb (apN ns sm s i) && z) = pb (apN ns sm s (i + 1)) := by
          intro z hz
          subst hz
          have : apN ns sm s (i + 1) ↔ (apN ns sm s i ∧ unN ns sm s i &&& x = 0) := ⟨fun q => ⟨fun j hj => q j (by omega), by have := q i (by omega) hbit; rw [hgd] at this; exact this⟩, fun q j hj hb => by
            rcases Nat.lt_or_ge j i with q1 | q1
            · exact q.1 j q1 hb
            · have : j = i := by omega
              subst this
              rw [hgd]; exact q.2⟩
          by_cases h1 : apN ns sm s i
          · by_cases h2 : unN ns sm s i &&& x = 0
            · rw [pb_true.mpr h1, decide_eq_true h2, pb_true.mpr (this.mpr ⟨h1, h2⟩)]; rfl
            · rw [decide_eq_false h2, Bool.and_false, pb_false.mpr (fun q => h2 (this.mp q).2)]
          · rw [pb_false.mpr h1, pb_false.mpr (fun q => h1 (this.mp q).1)]; rfl
        have fin : ∀ z : Bool, z = decide (unN ns sm s i &&& x = 0) → R (d + 1) 174 58 [some (.ref 76), some (.int (nI ns.length)), some (.int (nI s)), some (.int (nI sm)), some (.int (nI (unN ns sm s i))), some (.int (b2i (pb (apN ns sm s i)))), some (.int (nI i))] [.int (b2i z), .int (b2i (pb (apN ns sm s i)))] h Q := by
          intro z hz
          iterate 1 (refine R_s kC9 rfl rfl ?_)
          refine (show R (d + 1) 174 59 _ [.int (b2i (pb (apN ns sm s i)) &&& b2i z)] h Q from ?_)
          rw [b2i_and, hstep z hz]
          repeat (refine R_s kC9 rfl rfl ?_)
          refine R_get kC9 rfl (ho) rfl ?_
          repeat (refine R_s kC9 rfl rfl ?_)
          refine R_ild kC9 rfl (hN) (rfl) (by omega) (by decide) ?_
          rw [hns i x hx]
          iterate 1 (refine R_s kC9 rfl rfl ?_)
          refine (show R (d + 1) 174 66 _ [.int (nI (unN ns sm s i) ||| nI x)] h Q from ?_)
          rw [nx_or]
          iterate 1 (refine R_s kC9 rfl rfl ?_)
          exact goon (unN ns sm s i ||| x) _ (by rw [unN_succ, if_pos hbit, hgd]) rfl
        repeat (refine R_s kC9 rfl rfl ?_)
        refine R_get kC9 rfl (ho) rfl ?_
        repeat (refine R_s kC9 rfl rfl ?_)
        refine R_ild kC9 rfl (hN) (rfl) (by omega) (by decide) ?_
        rw [hns i x hx]
        iterate 1 (refine R_s kC9 rfl rfl ?_)
        refine (show R (d + 1) 174 54 _ [.int (nI (unN ns sm s i) &&& nI x), _] h Q from ?_)
        refine Z_ne kC9 rfl (nx_and _ _) (Nat.lt_of_le_of_lt Nat.and_le_left (by omega)) (fun h0 => ?_) (fun h0 => ?_)
        · iterate 1 (refine R_s kC9 rfl rfl ?_)
          exact fin false (decide_eq_false h0).symm
        · iterate 1 (refine R_s kC9 rfl rfl ?_)
          refine R_g kC9 rfl ?_
          exact fin true (decide_eq_true h0).symm
/-- isNested: the masks -/
theorem lp_nestB (d : Nat) {N : Nat → Int32} {S : Int32} (ho : h.2 76 = mob k fed pl le fi co) (hg : h.2 77 = ints 106 G) (hS : ∀ s, s < 32 → G (1 + s) = b2i (bt S s)) (hN : h.2 80 = ints 5 N) {ns : List Nat} (hns : ∀ i x, ns[i]? = some x → N i = nI x) (h32 : ∀ t ∈ ns, t < 32) (hl : ns.length ≤ 4) {s : Nat} (hs : s < 32) (hlam : ∀ t ∈ ns, lam t s) : ∀ (m sm : Nat) (w4 w5 w6 : Option Value), sm + m = 2 ^ ns.length → 1 ≤ sm → (∀ q, 1 ≤ q → q < sm → apN ns q s ns.length → bt S (unN ns q s ns.length) = false) → R (d + 1) 174 29 [some (.ref 76), some (.int (nI ns.length)), some (.int (nI s)), some (.int (nI sm)), w4, w5, w6] [] h (fun r2 h2 => r2 = some (.int (b2i (pb (TakesR S ns s)))) ∧ h2 = h) := by
  have kC9 := co_MO_isNested
  have hp4 : 2 ^ ns.length ≤ 16 := (Nat.pow_le_pow_right (by omega) hl : 2 ^ ns.length ≤ 2 ^ 4)
  intro m
  induction m with
  | zero =>
    intro sm w4 w5 w6 hm h1 hp
    repeat (refine R_s kC9 rfl rfl ?_)
    refine R_ge kC9 rfl rfl (by rw [nI_shl (by omega), Nat.one_shiftLeft]) (by omega) (by omega) (fun hc => ?_) (fun hc => by omega)
    repeat (refine R_s kC9 rfl rfl ?_)
    refine R_rz kC9 rfl (Or.inr rfl) ⟨ri_eq (b2i_t (pb_true.mpr ⟨hlam, fun q q1 q2 q3 => hp q q1 (by omega) q3⟩)), rfl⟩
  | succ m ih =>
    intro sm w4 w5 w6 hm h1 hp
    have goon : (apN ns sm s ns.length → bt S (unN ns sm s ns.length) = false) → ∀ w4 w5 w6 : Option Value, R (d + 1) 174 81 [some (.ref 76), some (.int (nI ns.length)), some (.int (nI s)), some (.int (nI sm)), w4, w5, w6] [] h (fun r2 h2 => r2 = some (.int (b2i (pb (TakesR S ns s)))) ∧ h2 = h) := by
      intro hq w4 w5 w6
      repeat (refine R_s kC9 rfl rfl ?_)
      refine R_g kC9 rfl ?_
      refine (show R (d + 1) 174 29 [some (.ref 76), some (.int (nI ns.length)), some (.int (nI s)), some (.int (nI sm + nI 1)), w4, w5, w6] [] h _ from ?_)
      rw [nI_add]
      refine ih (sm + 1) w4 w5 w6 (by omega) (by omega) (fun q q1 q2 q3 => ?_)
      rcases Nat.lt_or_ge q sm with q4 | q4
      · exact hp q q1 q4 q3
      · have : q = sm := by omega
        subst this
        exact hq q3
    repeat (refine R_s kC9 rfl rfl ?_)
    refine R_ge kC9 rfl rfl (by rw [nI_shl (by omega), Nat.one_shiftLeft]) (by omega) (by omega) (fun hc => by omega) (fun hc => ?_)
    iterate 6 (refine R_s kC9 rfl rfl ?_)
    refine (show R (d + 1) 174 40 [some (.ref 76), some (.int (nI ns.length)), some (.int (nI s)), some (.int (nI sm)), some (.int (nI s)), some (.int (nI 1)), some (.int (nI 0))] [] h _ from ?_)
    have e0 : (nI 1 : Int32) = b2i (pb (apN ns sm s 0)) := b2i_t (pb_true.mpr (fun i hi => absurd hi (by omega)))
    rw [show ([some (.ref 76), some (.int (nI ns.length)), some (.int (nI s)), some (.int (nI sm)), some (.int (nI s)), some (.int (nI 1)), some (.int (nI 0))] : ALs) = [some (.ref 76), some (.int (nI ns.length)), some (.int (nI s)), some (.int (nI sm)), some (.int (nI (unN ns sm s 0))), some (.int (b2i (pb (apN ns sm s 0)))), some (.int (nI 0))] by rw [← e0]; rfl]
    refine lp_nestC d _ ho hN hns h32 hl hs (by omega) ?_ ns.length 0 (by omega)
    have hu := unN_lt (sm := sm) hs h32 ns.length
    repeat (refine R_s kC9 rfl rfl ?_)
    refine ZB_eq kC9 rfl (fun hc => ?_) (fun hc => ?_)
    · exact goon (fun q => absurd q (pb_false.mp hc)) _ _ _
    · have hap := pb_true.mp hc
      repeat (refine R_s kC9 rfl rfl ?_)
      refine R_get kC9 rfl (ho) rfl ?_
      repeat (refine R_s kC9 rfl rfl ?_)
      refine R_ild kC9 rfl (hg) (nI_add 1 _) (by omega) (by decide) ?_
      rw [hS _ hu, b2i_nI (bt S (unN ns sm s ns.length))]
      repeat (refine R_s kC9 rfl rfl ?_)
      refine R_ne kC9 rfl rfl rfl (by cases bt S (unN ns sm s ns.length) <;> decide) (by decide) (fun hd => ?_) (fun hd => ?_)
      · refine goon (fun _ => (b2i_ne1 _).mp hd) _ _ _
      · have hb : bt S (unN ns sm s ns.length) = true := by cases hq : bt S (unN ns sm s ns.length) with | true => rfl | false => rw [hq] at hd; cases hd
        repeat (refine R_s kC9 rfl rfl ?_)
        refine R_rz kC9 rfl (Or.inl rfl) ⟨ri_eq (b2i_f (pb_false.mpr (fun q => ?_))), rfl⟩
        have := q.2 sm h1 (by omega) hap
        rw [hb] at this
        cases this
theorem sp_MO_isNested (d : Nat) {N : Nat → Int32} {S : Int32} (ho : h.2 76 = mob k fed pl le fi co) (hg : h.2 77 = ints 106 G) (hS : ∀ s, s < 32 → G (1 + s) = b2i (bt S s)) (hN : h.2 80 = ints 5 N) {ns : List Nat} (hns : ∀ i x, ns[i]? = some x → N i = nI x) (h32 : ∀ t ∈ ns, t < 32) (hl : ns.length ≤ 4) {s : Nat} (hs : s < 32) : Cl (d + 1) 174 [.ref 76, .int (nI ns.length), .int (nI s)] h (some (.int (b2i (pb (TakesR S ns s))))) h := by
  have kC9 := co_MO_isNested
  refine Cl_of kC9 rfl rfl ?_
  iterate 2 (refine R_s kC9 rfl rfl ?_)
  refine (show R (d + 1) 174 2 [some (.ref 76), some (.int (nI ns.length)), some (.int (nI s)), some (.int (nI 0)), none, none, none] [] h _ from ?_)
  refine lp_nestA (d + 1) _ ho hN hns h32 hl hs (fun hb => ⟨ri_eq (b2i_f (pb_false.mpr (fun q => hb q.1))), rfl⟩) (fun hlam w3 w4 => ?_) ns.length 0 none (by omega) (fun t ht => by simp at ht)
  iterate 2 (refine R_s kC9 rfl rfl ?_)
  have hp1 : 1 ≤ 2 ^ ns.length := Nat.one_le_two_pow
  exact lp_nestB d ho hg hS hN hns h32 hl hs hlam (2 ^ ns.length - 1) 1 _ _ _ (by omega) (by omega) (fun q q1 q2 => by omega)
end
