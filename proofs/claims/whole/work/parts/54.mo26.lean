/-! THE REFERENCE, 25: what is told of the corners, 1 -/
abbrev ZT : Type := (Nat → Int32) × (Nat → Int32) × (Nat → Int32) × (Nat → Int32) × (Nat → Int32) × (Nat → Int32) × Nat
/-- the reference's cells that have to do with corners -/
def mCel (h : AH) (k fed pl le fi : Int32) (G : Nat → Int32) (z : ZT) : Prop := h.2 76 = mob k fed pl le fi (nI z.2.2.2.2.2.2) ∧ h.2 77 = ints 106 G ∧ h.2 80 = ints 5 z.1 ∧ h.2 83 = ints 33 z.2.1 ∧ h.2 84 = ints 5 z.2.2.1 ∧ h.2 85 = ints 120 z.2.2.2.1 ∧ h.2 86 = ints 600 z.2.2.2.2.1 ∧ h.2 87 = ints 480 z.2.2.2.2.2.1
def caZ (n : Nat) (S : Int32) (z : ZT) : Prop := CaOK n S z.2.1 z.2.2.1 z.2.2.2.1 z.2.2.2.2.1 z.2.2.2.2.2.1 z.2.2.2.2.2.2
def caI (z : ZT) : Prop := CaI z.2.1 z.2.2.1 z.2.2.2.1 z.2.2.2.2.1 z.2.2.2.2.2.1 z.2.2.2.2.2.2
theorem caZ.i {n : Nat} {S : Int32} {z : ZT} (hn : n ≤ 5) (h : caZ n S z) : caI z := Or.inr ⟨n, S, hn, h⟩
/-- all but what finds writes is as it was -/
def frm (h h' : AH) : Prop := h'.1 = h.1 ∧ ∀ q, ¬ (q = 76 ∨ q = 80 ∨ (83 ≤ q ∧ q ≤ 87)) → h'.2 q = h.2 q
theorem frm.rfl {h : AH} : frm h h := ⟨Eq.refl _, fun _ _ => Eq.refl _⟩
theorem frm.trans {h h' h'' : AH} (a : frm h h') (b : frm h' h'') : frm h h'' := ⟨b.1.trans a.1, fun q hq => (b.2 q hq).trans (a.2 q hq)⟩
/-- at most 120 corners -/
def c120 (n : Nat) (S : Int32) : Prop := (corL n (allN n S)).length ≤ 120
section
variable {h : AH} {k fed pl le fi : Int32} {G : Nat → Int32} {n : Nat} {S : Int32} {z : ZT}
theorem st_finds (d : Nat) (hm : mCel h k fed pl le fi G z) (hn : n ≤ 5) (hn2 : 2 ≤ n) (h0 : G 0 = nI n) (hS : ∀ s, s < 32 → G (1 + s) = b2i (bt S s)) (hb : c120 n S) (hI : caI z) : ∃ z' h', caZ n S z' ∧ mCel h' k fed pl le fi G z' ∧ frm h h' ∧ Cl (d + 7) 201 [.ref 76] h none h' := by
  obtain ⟨z', hz, hcl⟩ := sp_MO_finds (S := S) d hm.1 hm.2.1 hm.2.2.1 hm.2.2.2.1 hm.2.2.2.2.1 hm.2.2.2.2.2.1 hm.2.2.2.2.2.2.1 hm.2.2.2.2.2.2.2 hn hn2 h0 hS hb hI
  refine ⟨z', fdH h k fed pl le fi z'.1 z'.2.1 z'.2.2.1 z'.2.2.2.1 z'.2.2.2.2.1 z'.2.2.2.2.2.1 z'.2.2.2.2.2.2, hz, ⟨rfl, hm.2.1, rfl, rfl, rfl, rfl, rfl, rfl⟩, ⟨rfl, fun q hq => ?_⟩, hcl⟩
  simp only [upH]
  rw [if_neg (by omega), if_neg (by omega), if_neg (by omega), if_neg (by omega), if_neg (by omega), if_neg (by omega), if_neg (by omega)]
theorem sp_MO_isCorner (d : Nat) (hm : mCel h k fed pl le fi G z) (hn : n ≤ 5) (hn2 : 2 ≤ n) (h0 : G 0 = nI n) (hS : ∀ s, s < 32 → G (1 + s) = b2i (bt S s)) (hb : c120 n S) (hI : caI z) (v : Int32) : ∃ z' h', caZ n S z' ∧ mCel h' k fed pl le fi G z' ∧ frm h h' ∧ Cl (d + 8) 202 [.ref 76, .int v] h (some (.int (b2i (itI (cornS n S).length v)))) h' := by
  obtain ⟨z', h', hz, hm', hf, hcl⟩ := st_finds d hm hn hn2 h0 hS hb hI
  refine ⟨z', h', hz, hm', hf, ?_⟩
  have ho := hm.1
  have ho' := hm'.1
  have hl : (cornS n S).length ≤ 120 := by rw [cornS_len]; exact hb
  have kC9 := co_MO_isCorner
  refine Cl_of kC9 rfl rfl ?_
  repeat (refine R_s kC9 rfl rfl ?_)
  refine R_cv kC9 rfl rfl rfl rfl ho (by decide) hcl ?_
  repeat (refine R_s kC9 rfl rfl ?_)
  refine R_get kC9 rfl (ho') rfl ?_
  rw [hz.2.2.1]
  repeat (refine R_s kC9 rfl rfl ?_)
  refine R_cs kC9 rfl rfl rfl rfl (sp_MO_isIn (d + 7) _ _ _ h') ?_
  rw [in_dec (x := 0) (y := ((cornS n S).length : Int) - 1) (by decide) (by rw [Int32.toInt_toInt64]; exact sub_ti (by omega) (by decide))]
  have e2 : decide (0 ≤ v.toInt ∧ v.toInt ≤ ((cornS n S).length : Int) - 1) = itI (cornS n S).length v := by
    unfold itI
    congr 1
    apply propext
    omega
  rw [e2]
  exact R_rb kC9 rfl ⟨rfl, rfl⟩
theorem sp_MO_manyCorners (d : Nat) (hm : mCel h k fed pl le fi G z) (hn : n ≤ 5) (hn2 : 2 ≤ n) (h0 : G 0 = nI n) (hS : ∀ s, s < 32 → G (1 + s) = b2i (bt S s)) (hb : c120 n S) (hI : caI z) : ∃ z' h', caZ n S z' ∧ mCel h' k fed pl le fi G z' ∧ frm h h' ∧ Cl (d + 8) 207 [.ref 76] h (some (.int (nI (cornS n S).length))) h' := by
  obtain ⟨z', h', hz, hm', hf, hcl⟩ := st_finds d hm hn hn2 h0 hS hb hI
  refine ⟨z', h', hz, hm', hf, ?_⟩
  have ho := hm.1
  have ho' := hm'.1
  have kC9 := co_MO_manyCorners
  refine Cl_of kC9 rfl rfl ?_
  repeat (refine R_s kC9 rfl rfl ?_)
  refine R_cv kC9 rfl rfl rfl rfl ho (by decide) hcl ?_
  repeat (refine R_s kC9 rfl rfl ?_)
  refine R_get kC9 rfl (ho') rfl ?_
  rw [hz.2.2.1]
  exact R_ri kC9 rfl ⟨rfl, rfl⟩
def wS (r : Nat → Nat) : Nat → Nat
  | 0 => 0
  | p + 1 => wS r p + 10 ^ p * r p
theorem wS_succ (r : Nat → Nat) (p : Nat) : wS r (p + 1) = wS r p + 10 ^ p * r p := rfl
/-- a corner's row and its worth -/
noncomputable def crow (n : Nat) (S : Int32) (c : Nat) : Nat → Nat := rowF n S ((cornS n S).getD c [])
noncomputable def worN (n : Nat) (S : Int32) (c : Nat) : Nat := wS (crow n S c) n
theorem wS_le {r : Nat → Nat} (hr : ∀ p, r p ≤ 32) : ∀ p, wS r p ≤ 32 * 10 ^ p
  | 0 => by simp [wS]
  | p + 1 => by
    have := wS_le hr p
    have h2 := Nat.mul_le_mul_left (10 ^ p) (hr p)
    rw [wS_succ, Nat.pow_succ]
    omega
theorem worN_lt {n : Nat} (hn : n ≤ 5) (S : Int32) (c : Nat) : worN n S c < 2 ^ 31 := by
  have h1 : worN n S c ≤ 32 * 10 ^ n := wS_le (fun p => rowF_le _ _ _ p) n
  have h2 : 10 ^ n ≤ 10 ^ 5 := Nat.pow_le_pow_right (by omega) hn
  have h3 : (10 : Nat) ^ 5 = 100000 := by decide
  omega
theorem caZ.st (hz : caZ n S z) {c : Nat} (hc : c < (cornS n S).length) {p : Nat} (hp : p < 5) : z.2.2.2.2.1 (5 * c + p) = nI (crow n S c p) := by
  have := hz.2.2.2.2.1 c ((cornS n S).getD c []) (by rw [List.getD_eq_getElem?_getD, List.getElem?_eq_getElem hc]; rfl) p hp
  exact this
theorem lp_worth (d : Nat) (hm : mCel h k fed pl le fi G z) (hn : n ≤ 5) (h0 : G 0 = nI n) (hz : caZ n S z) (hb : c120 n S) {c : Nat} (hc : c < (cornS n S).length) : ∀ (m p : Nat), p + m = n → R d 203 6 [some (.ref 76), some (.int (nI c)), some (.int (nI (wS (crow n S c) p))), some (.int (nI (10 ^ p))), some (.int (nI p))] [] h (fun r2 h2 => r2 = some (.int (nI (worN n S c))) ∧ h2 = h) := by
  have kC9 := co_MO_worth
  have ho := hm.1
  have hg := hm.2.1
  have hst := hm.2.2.2.2.2.2.1
  have hl : (cornS n S).length ≤ 120 := by rw [cornS_len]; exact hb
  intro m
  induction m with
  | zero =>
    intro p hp
    repeat (refine R_s kC9 rfl rfl ?_)
    refine R_get kC9 rfl (ho) rfl ?_
    repeat (refine R_s kC9 rfl rfl ?_)
    refine R_ild kC9 rfl (hg) (rfl) (by decide) (by decide) ?_
    rw [h0]
    refine R_ge kC9 rfl (rfl) (rfl) (by omega) (by omega) (fun hc => ?_) (fun hc => ?_)
    · repeat (refine R_s kC9 rfl rfl ?_)
      have : p = n := by omega
      subst this
      exact R_ri kC9 rfl ⟨rfl, rfl⟩
    · omega
  | succ m ih =>
    intro p hp
    repeat (refine R_s kC9 rfl rfl ?_)
    refine R_get kC9 rfl (ho) rfl ?_
    repeat (refine R_s kC9 rfl rfl ?_)
    refine R_ild kC9 rfl (hg) (rfl) (by decide) (by decide) ?_
    rw [h0]
    refine R_ge kC9 rfl (rfl) (rfl) (by omega) (by omega) (fun hc => ?_) (fun hc => ?_)
    · omega
    · repeat (refine R_s kC9 rfl rfl ?_)
      refine R_get kC9 rfl (ho) rfl ?_
      repeat (refine R_s kC9 rfl rfl ?_)
      refine R_ild kC9 rfl hst (k := 5 * c + p) (show nI 5 * nI c + nI p = _ by rw [pk_mul, nI_add]) (by omega) (by decide) ?_
      rw [hz.st (by omega) (by omega)]
      repeat (refine R_s kC9 rfl rfl ?_)
      refine R_g kC9 rfl ?_
      refine (show R d 203 6 [some (.ref 76), some (.int (nI c)), some (.int (nI (wS (crow n S c) p) + nI (10 ^ p) * nI (crow n S c p))), some (.int (nI (10 ^ p) * nI 10)), some (.int (nI p + nI 1))] [] h _ from ?_)
      rw [pk_mul, pk_mul, nI_add, nI_add, ← wS_succ, ← Nat.pow_succ]
      exact ih (p + 1) (by omega)
theorem sp_MO_worth (d : Nat) (hm : mCel h k fed pl le fi G z) (hn : n ≤ 5) (h0 : G 0 = nI n) (hz : caZ n S z) (hb : c120 n S) {c : Nat} (hc : c < (cornS n S).length) : Cl d 203 [.ref 76, .int (nI c)] h (some (.int (nI (worN n S c)))) h := by
  have kC9 := co_MO_worth
  refine Cl_of kC9 rfl rfl ?_
  iterate 6 (refine R_s kC9 rfl rfl ?_)
  exact lp_worth d hm hn h0 hz hb hc n 0 (by omega)
/-- every corner has its flips -/
def flOK (n : Nat) (S : Int32) : Prop := ∀ c j, c < (cornS n S).length → j < n - 1 → ∃ o, o < (cornS n S).length ∧ nearR n S c j = some o
noncomputable def nrN (n : Nat) (S : Int32) (c j : Nat) : Nat := (nearR n S c j).getD 0
theorem flOK.at (hf : flOK n S) {c j : Nat} (hc : c < (cornS n S).length) (hj : j < n - 1) : nrN n S c j < (cornS n S).length ∧ optI (nearR n S c j) = nI (nrN n S c j) := by
  obtain ⟨o, h1, h2⟩ := hf c j hc hj
  unfold nrN
  rw [h2]
  exact ⟨h1, rfl⟩
noncomputable def risB (n : Nat) (S : Int32) (c j : Nat) : Bool := decide (worN n S (nrN n S c j) < worN n S c)
theorem lp_rises (d : Nat) (hm : mCel h k fed pl le fi G z) (hn : n ≤ 5) (hn2 : 2 ≤ n) (h0 : G 0 = nI n) (hz : caZ n S z) (hb : c120 n S) (hf : flOK n S) {c : Nat} (hc : c < (cornS n S).length) : ∀ (m j : Nat), j + m = n - 1 → R (d + 1) 204 4 [some (.ref 76), some (.int (nI c)), some (.int (nI (cnt (risB n S c) j))), some (.int (nI j))] [] h (fun r2 h2 => r2 = some (.int (nI (cnt (risB n S c) (n - 1)))) ∧ h2 = h) := by
  have kC9 := co_MO_rises
  have ho := hm.1
  have hg := hm.2.1
  have hnr := hm.2.2.2.2.2.2.2
  have hl : (cornS n S).length ≤ 120 := by rw [cornS_len]; exact hb
  intro m
  induction m with
  | zero =>
    intro j hj
    repeat (refine R_s kC9 rfl rfl ?_)
    refine R_get kC9 rfl (ho) rfl ?_
    repeat (refine R_s kC9 rfl rfl ?_)
    refine R_ild kC9 rfl (hg) (rfl) (by decide) (by decide) ?_
    rw [h0]
    repeat (refine R_s kC9 rfl rfl ?_)
    refine R_ge kC9 rfl rfl (pk_sub (by omega)) (by omega) (by omega) (fun q => ?_) (fun q => by omega)
    repeat (refine R_s kC9 rfl rfl ?_)
    have : j = n - 1 := by omega
    rw [this]
    exact R_ri kC9 rfl ⟨rfl, rfl⟩
  | succ m ih =>
    intro j hj
    obtain ⟨f1, f2⟩ := hf.at hc (show j < n - 1 by omega)
    have goon : ∀ b : Bool, b = risB n S c j → R (d + 1) 204 30 [some (.ref 76), some (.int (nI c)), some (.int (nI (cnt (risB n S c) j))), some (.int (nI j))] [.int (nI b.toNat), .int (nI (cnt (risB n S c) j))] h (fun r2 h2 => r2 = some (.int (nI (cnt (risB n S c) (n - 1)))) ∧ h2 = h) := by
      intro b hb
      subst hb
      repeat (refine R_s kC9 rfl rfl ?_)
      refine R_g kC9 rfl ?_
      refine (show R (d + 1) 204 4 [some (.ref 76), some (.int (nI c)), some (.int (nI (cnt (risB n S c) j) + nI (risB n S c j).toNat)), some (.int (nI j + nI 1))] [] h _ from ?_)
      rw [nI_add, nI_add]
      exact ih (j + 1) (by omega)
    repeat (refine R_s kC9 rfl rfl ?_)
    refine R_get kC9 rfl (ho) rfl ?_
    repeat (refine R_s kC9 rfl rfl ?_)
    refine R_ild kC9 rfl (hg) (rfl) (by decide) (by decide) ?_
    rw [h0]
    repeat (refine R_s kC9 rfl rfl ?_)
    refine R_ge kC9 rfl rfl (pk_sub (by omega)) (by omega) (by omega) (fun q => by omega) (fun q => ?_)
    repeat (refine R_s kC9 rfl rfl ?_)
    refine R_get kC9 rfl (ho) rfl ?_
    repeat (refine R_s kC9 rfl rfl ?_)
    refine R_ild kC9 rfl hnr (k := 4 * c + j) (show nI 4 * nI c + nI j = _ by rw [pk_mul, nI_add]) (by omega) (by decide) ?_
    rw [hz.2.2.2.2.2 c j hc (by omega), f2]
    repeat (refine R_s kC9 rfl rfl ?_)
    refine R_cv kC9 rfl rfl rfl rfl (ho) (by decide) (sp_MO_worth d hm hn h0 hz hb f1) ?_
    repeat (refine R_s kC9 rfl rfl ?_)
    refine R_cv kC9 rfl rfl rfl rfl (ho) (by decide) (sp_MO_worth d hm hn h0 hz hb hc) ?_
    refine R_ge kC9 rfl rfl rfl (worN_lt hn S _) (worN_lt hn S _) (fun q => ?_) (fun q => ?_)
    · iterate 1 (refine R_s kC9 rfl rfl ?_)
      exact goon false (by unfold risB; rw [decide_eq_false (by omega)])
    · iterate 1 (refine R_s kC9 rfl rfl ?_)
      refine R_g kC9 rfl ?_
      exact goon true (by unfold risB; rw [decide_eq_true q])
theorem sp_MO_rises (d : Nat) (hm : mCel h k fed pl le fi G z) (hn : n ≤ 5) (hn2 : 2 ≤ n) (h0 : G 0 = nI n) (hz : caZ n S z) (hb : c120 n S) (hf : flOK n S) {c : Nat} (hc : c < (cornS n S).length) : Cl (d + 1) 204 [.ref 76, .int (nI c)] h (some (.int (nI (cnt (risB n S c) (n - 1))))) h := by
  have kC9 := co_MO_rises
  refine Cl_of kC9 rfl rfl ?_
  iterate 4 (refine R_s kC9 rfl rfl ?_)
  exact lp_rises d hm hn hn2 h0 hz hb hf hc (n - 1) 0 (by omega)
/-- of the corners that have all of A: how many; the first -/
def hvN (A : Int32) : List Int32 → Nat
  | [] => 0
  | x :: l => (decide (x &&& A = A)).toNat + hvN A l
def hvF (A : Int32) : List Int32 → Nat → Option Nat
  | [], _ => none
  | x :: l, c => if x &&& A = A then some c else hvF A l (c + 1)
theorem hvN_cons (A x : Int32) (l : List Int32) : hvN A (x :: l) = (decide (x &&& A = A)).toNat + hvN A l := rfl
theorem hvF_cons (A x : Int32) (l : List Int32) (c : Nat) : hvF A (x :: l) c = if x &&& A = A then some c else hvF A l (c + 1) := rfl
theorem caZ.cm (hz : caZ n S z) : ∀ i x, (cornM n S)[i]? = some x → z.2.2.2.1 i = x := by
  intro i x hx
  unfold cornM at hx
  rw [List.getElem?_map] at hx
  cases hq : (cornS n S)[i]? with
  | none => rw [hq] at hx; cases hx
  | some y =>
    rw [hq] at hx
    cases hx
    exact hz.2.2.2.1 i y hq
theorem cornM_len (n : Nat) (S : Int32) : (cornM n S).length = (cornS n S).length := by unfold cornM; rw [List.length_map]
def havR (n : Nat) (S A : Int32) (f : Bool) (l : List Int32) (c a : Nat) : Nat := if f = true then (hvF A l c).getD a else a + hvN A l
theorem lp_having (d : Nat) (hm : mCel h k fed pl le fi G z) (hz : caZ n S z) (hb : c120 n S) (A : Int32) (f : Bool) : ∀ (m c a : Nat), c + m = (cornM n S).length → (f = true → a = 0) → R d 209 6 [some (.ref 76), some (.int A), some (.int (b2i f)), some (.int (nI a)), some (.int (nI c))] [] h (fun r2 h2 => r2 = some (.int (nI (havR n S A f ((cornM n S).drop c) c a))) ∧ h2 = h) := by
  have kC9 := co_MO_having
  have ho := hm.1
  have hC := hm.2.2.2.2.2.1
  have hl : (cornM n S).length ≤ 120 := by rw [cornM_len, cornS_len]; exact hb
  have eco : z.2.2.2.2.2.2 = (cornM n S).length := by rw [cornM_len]; exact hz.2.2.1
  rw [eco] at ho
  intro m
  induction m with
  | zero =>
    intro c a hc ha
    rw [List.drop_eq_nil_of_le (by omega)]
    repeat (refine R_s kC9 rfl rfl ?_)
    refine R_get kC9 rfl (ho) rfl ?_
    refine R_ge kC9 rfl (rfl) (rfl) (by omega) (by omega) (fun hc => ?_) (fun hc => ?_)
    · repeat (refine R_s kC9 rfl rfl ?_)
      refine R_ri kC9 rfl ⟨?_, rfl⟩
      unfold havR
      cases f <;> rfl
    · omega
  | succ m ih =>
    intro c a hc ha
    repeat (refine R_s kC9 rfl rfl ?_)
    refine R_get kC9 rfl (ho) rfl ?_
    refine R_ge kC9 rfl (rfl) (rfl) (by omega) (by omega) (fun hc => ?_) (fun hc => ?_)
    · omega
    · obtain ⟨x, hx⟩ : ∃ x, (cornM n S)[c]? = some x := ⟨(cornM n S)[c], List.getElem?_eq_getElem (by omega)⟩
      rw [drop_cons hx]
      have goon : ∀ a2 : Nat, (f = true → a2 = 0) → R d 209 23 [some (.ref 76), some (.int A), some (.int (b2i f)), some (.int (nI a2)), some (.int (nI c))] [] h (fun r2 h2 => r2 = some (.int (nI (havR n S A f ((cornM n S).drop (c + 1)) (c + 1) a2))) ∧ h2 = h) := by
        intro a2 ha2
        repeat (refine R_s kC9 rfl rfl ?_)
        refine R_g kC9 rfl ?_
        refine (show R d 209 6 [some (.ref 76), some (.int A), some (.int (b2i f)), some (.int (nI a2)), some (.int (nI c + nI 1))] [] h _ from ?_)
        rw [nI_add]
        exact ih (c + 1) a2 (by omega) ha2
      repeat (refine R_s kC9 rfl rfl ?_)
      refine R_get kC9 rfl (ho) rfl ?_
      repeat (refine R_s kC9 rfl rfl ?_)
      refine R_ild kC9 rfl (hC) (rfl) (by omega) (by decide) ?_
      rw [hz.cm c x hx]
      repeat (refine R_s kC9 rfl rfl ?_)
      refine Rr_ne kC9 rfl (fun q => ?_) (fun q => ?_)
      · have e : havR n S A f (x :: (cornM n S).drop (c + 1)) c a = havR n S A f ((cornM n S).drop (c + 1)) (c + 1) a := by
          unfold havR
          rw [hvF_cons, hvN_cons, if_neg q, decide_eq_false q]
          simp
        rw [e]
        exact goon a ha
      · repeat (refine R_s kC9 rfl rfl ?_)
        refine ZB_eq kC9 rfl (fun q2 => ?_) (fun q2 => ?_)
        · have e : havR n S A f (x :: (cornM n S).drop (c + 1)) c a = havR n S A f ((cornM n S).drop (c + 1)) (c + 1) (a + 1) := by
            unfold havR
            rw [hvF_cons, hvN_cons, if_pos q, decide_eq_true q, q2, if_neg (by decide), if_neg (by decide)]
            simp
            omega
          rw [e]
          iterate 1 (refine R_s kC9 rfl rfl ?_)
          refine (show R d 209 23 [some (.ref 76), some (.int A), some (.int (b2i f)), some (.int (nI a + nI 1)), some (.int (nI c))] [] h _ from ?_)
          rw [nI_add]
          exact goon (a + 1) (fun z => by rw [q2] at z; cases z)
        · repeat (refine R_s kC9 rfl rfl ?_)
          refine R_ri kC9 rfl ⟨?_, rfl⟩
          unfold havR
          rw [if_pos q2, hvF_cons, if_pos q]
          rfl
theorem sp_MO_having (d : Nat) (hm : mCel h k fed pl le fi G z) (hn : n ≤ 5) (hn2 : 2 ≤ n) (h0 : G 0 = nI n) (hS : ∀ s, s < 32 → G (1 + s) = b2i (bt S s)) (hb : c120 n S) (hI : caI z) (A : Int32) (f : Bool) : ∃ z' h', caZ n S z' ∧ mCel h' k fed pl le fi G z' ∧ frm h h' ∧ Cl (d + 8) 209 [.ref 76, .int A, .int (b2i f)] h (some (.int (nI (havR n S A f (cornM n S) 0 0)))) h' := by
  obtain ⟨z', h', hz, hm', hf, hcl⟩ := st_finds d hm hn hn2 h0 hS hb hI
  refine ⟨z', h', hz, hm', hf, ?_⟩
  have ho := hm.1
  have kC9 := co_MO_having
  refine Cl_of kC9 rfl rfl ?_
  repeat (refine R_s kC9 rfl rfl ?_)
  refine R_cv kC9 rfl rfl rfl rfl ho (by decide) hcl ?_
  iterate 4 (refine R_s kC9 rfl rfl ?_)
  exact lp_having (d + 8) hm' hz hb A f (cornM n S).length 0 0 (by omega) (fun _ => rfl)
end
