/-! THE REFERENCE, 26: what is told of the corners, 2 -/
noncomputable def nestsR (n : Nat) (S v : Int32) : Int32 := if itI n v = true then nI (lenN (allN n S) v.toNatClampNeg) else -2
noncomputable def risenB (n : Nat) (S v : Int32) (c : Nat) : Bool := decide (nI (cnt (risB n S c) (n - 1)) = v)
noncomputable def risenR (n : Nat) (S v : Int32) : Int32 := if itI n v = true then nI (cnt (risenB n S v) (cornS n S).length) else -2
noncomputable def atR (n : Nat) (S v w : Int32) : Int32 := if (itI (cornS n S).length v && ptB n w) = true then nI (crow n S v.toNatClampNeg w.toNatClampNeg) else -1
noncomputable def setR (n : Nat) (S v w : Int32) : Int32 := if (itI (cornS n S).length v && itI (n - 1) w) = true then nI (((cornS n S).getD v.toNatClampNeg []).getD w.toNatClampNeg 0) else -1
noncomputable def flipR (n : Nat) (S v w : Int32) : Int32 := if (itI (cornS n S).length v && itI (n - 1) w) = true then nI (nrN n S v.toNatClampNeg w.toNatClampNeg) else -1
def smS (s : Nat) (r : Nat → Nat) : Nat → Nat
  | 0 => 0
  | p + 1 => smS s r p + (if s.testBit p = true then r p else 0)
theorem smS_succ (s : Nat) (r : Nat → Nat) (p : Nat) : smS s r (p + 1) = smS s r p + (if s.testBit p = true then r p else 0) := rfl
def lsO (f : Nat → Nat) : Nat → Option Nat
  | 0 => none
  | c + 1 => match lsO f c with
    | none => some (f c)
    | some l => if f c < l then some (f c) else some l
theorem lsO_succ (f : Nat → Nat) (c : Nat) : lsO f (c + 1) = (match lsO f c with
    | none => some (f c)
    | some l => if f c < l then some (f c) else some l) := rfl
theorem lsO_lt {f : Nat → Nat} {b : Nat} (hf : ∀ c, f c < b) : ∀ c l, lsO f c = some l → l < b
  | 0, l, h => by cases h
  | c + 1, l, h => by
    rw [lsO_succ] at h
    cases hq : lsO f c with
    | none => rw [hq] at h; cases h; exact hf c
    | some l' =>
      rw [hq] at h
      dsimp only at h
      split at h
      · cases h; exact hf c
      · cases h; exact lsO_lt hf c _ hq
theorem smS_lt {r : Nat → Nat} (hr : ∀ p, r p ≤ 32) (s : Nat) : ∀ p, smS s r p ≤ 32 * p
  | 0 => by simp [smS]
  | p + 1 => by
    have := smS_lt hr s p
    have := hr p
    rw [smS_succ]
    split <;> omega
noncomputable def faceR (n : Nat) (S v w : Int32) : Int32 := if (inF n S v && !decide (v = nI (2 ^ n - 1)) && decide (0 ≤ w.toInt ∧ w.toInt ≤ 2)) = true then (if w = 2 then optI (lsO (fun c => smS v.toNatClampNeg (crow n S c) n) (cornS n S).length) else nI (havR n S (nI 1 <<< (v &&& 31)) (decide (w = 1)) (cornM n S) 0 0)) else -1
section
variable {h : AH} {k fed pl le fi : Int32} {G : Nat → Int32} {n : Nat} {S : Int32} {z : ZT}
theorem in_it {v : Int32} {a : Int64} {m : Nat} (ha : a.toInt = (m : Int) - 1) : decide ((0 : Int64).toInt ≤ v.toInt64.toInt ∧ v.toInt64.toInt ≤ a.toInt) = itI m v := by
  unfold itI
  rw [ha, Int32.toInt_toInt64]
  congr 1
  apply propext
  have : (0 : Int64).toInt = 0 := by decide
  omega
theorem sp_MO_nests (d : Nat) (hm : mCel h k fed pl le fi G z) (hn : n ≤ 5) (hn2 : 2 ≤ n) (h0 : G 0 = nI n) (hS : ∀ s, s < 32 → G (1 + s) = b2i (bt S s)) (hb : c120 n S) (hI : caI z) (v : Int32) : ∃ z' h', caI z' ∧ mCel h' k fed pl le fi G z' ∧ frm h h' ∧ Cl (d + 8) 213 [.ref 76, .int v] h (some (.int (nestsR n S v))) h' := by
  have kC9 := co_MO_nests
  have ho := hm.1
  have hg := hm.2.1
  have ein := in_it (v := v) (m := n) (a := (nI n - nI 1).toInt64) (by rw [Int32.toInt_toInt64]; exact sub_ti (by omega) (by decide))
  unfold nestsR
  cases hv : itI n v with
  | false =>
    refine ⟨z, h, hI, hm, frm.rfl, ?_⟩
    rw [if_neg (by decide)]
    refine Cl_of kC9 rfl rfl ?_
    repeat (refine R_s kC9 rfl rfl ?_)
    refine R_get kC9 rfl (ho) rfl ?_
    repeat (refine R_s kC9 rfl rfl ?_)
    refine R_ild kC9 rfl (hg) (rfl) (by decide) (by decide) ?_
    rw [h0]
    repeat (refine R_s kC9 rfl rfl ?_)
    refine R_cs kC9 rfl rfl rfl rfl (sp_MO_isIn (d + 7) _ _ _ h) ?_
    rw [show decide ((0 : Int64).toInt ≤ v.toInt64.toInt ∧ v.toInt64.toInt ≤ (nI n - nI 1).toInt64.toInt) = false from ein.trans hv]
    refine ZB_ne kC9 rfl (fun q => by cases q) (fun _ => ?_)
    repeat (refine R_s kC9 rfl rfl ?_)
    exact R_ri kC9 rfl ⟨rfl, rfl⟩
  | true =>
    obtain ⟨z', h', hz, hm', hf, hcl⟩ := st_finds d hm hn hn2 h0 hS hb hI
    refine ⟨z', h', hz.i hn, hm', hf, ?_⟩
    have ho' := hm'.1
    have hns' := hm'.2.2.2.2.1
    obtain ⟨i, i1, i2, rfl⟩ := itI_of hv
    rw [if_pos rfl, nI_clamp i2]
    refine Cl_of kC9 rfl rfl ?_
    repeat (refine R_s kC9 rfl rfl ?_)
    refine R_get kC9 rfl (ho) rfl ?_
    repeat (refine R_s kC9 rfl rfl ?_)
    refine R_ild kC9 rfl (hg) (rfl) (by decide) (by decide) ?_
    rw [h0]
    repeat (refine R_s kC9 rfl rfl ?_)
    refine R_cs kC9 rfl rfl rfl rfl (sp_MO_isIn (d + 7) _ _ _ h) ?_
    rw [show decide ((0 : Int64).toInt ≤ (nI i).toInt64.toInt ∧ (nI i).toInt64.toInt ≤ (nI n - nI 1).toInt64.toInt) = true from ein.trans hv]
    refine ZB_ne kC9 rfl (fun _ => ?_) (fun q => by cases q)
    repeat (refine R_s kC9 rfl rfl ?_)
    refine R_cv kC9 rfl rfl rfl rfl ho (by decide) hcl ?_
    repeat (refine R_s kC9 rfl rfl ?_)
    refine R_get kC9 rfl (ho') rfl ?_
    repeat (refine R_s kC9 rfl rfl ?_)
    refine R_ild kC9 rfl (hns') (rfl) (by omega) (by decide) ?_
    rw [hz.2.1 i (by omega)]
    exact R_ri kC9 rfl ⟨rfl, rfl⟩
theorem lp_risen (d : Nat) (hm : mCel h k fed pl le fi G z) (hn : n ≤ 5) (hn2 : 2 ≤ n) (h0 : G 0 = nI n) (hz : caZ n S z) (hb : c120 n S) (hf : flOK n S) (v : Int32) : ∀ (m c : Nat), c + m = (cornS n S).length → R (d + 2) 214 20 [some (.ref 76), some (.int v), some (.int (nI (cnt (risenB n S v) c))), some (.int (nI c))] [] h (fun r2 h2 => r2 = some (.int (nI (cnt (risenB n S v) (cornS n S).length))) ∧ h2 = h) := by
  have kC9 := co_MO_risen
  have ho := hm.1
  rw [hz.2.2.1] at ho
  have hl : (cornS n S).length ≤ 120 := by rw [cornS_len]; exact hb
  intro m
  induction m with
  | zero =>
    intro c hc
    repeat (refine R_s kC9 rfl rfl ?_)
    refine R_get kC9 rfl (ho) rfl ?_
    refine R_ge kC9 rfl (rfl) (rfl) (by omega) (by omega) (fun hc => ?_) (fun hc => ?_)
    · repeat (refine R_s kC9 rfl rfl ?_)
      have : c = (cornS n S).length := by omega
      rw [this]
      exact R_ri kC9 rfl ⟨rfl, rfl⟩
    · omega
  | succ m ih =>
    intro c hc
    have goon : ∀ b : Bool, b = risenB n S v c → R (d + 2) 214 33 [some (.ref 76), some (.int v), some (.int (nI (cnt (risenB n S v) c))), some (.int (nI c))] [.int (nI b.toNat), .int (nI (cnt (risenB n S v) c))] h (fun r2 h2 => r2 = some (.int (nI (cnt (risenB n S v) (cornS n S).length))) ∧ h2 = h) := by
      intro b hb
      subst hb
      repeat (refine R_s kC9 rfl rfl ?_)
      refine R_g kC9 rfl ?_
      refine (show R (d + 2) 214 20 [some (.ref 76), some (.int v), some (.int (nI (cnt (risenB n S v) c) + nI (risenB n S v c).toNat)), some (.int (nI c + nI 1))] [] h _ from ?_)
      rw [nI_add, nI_add]
      exact ih (c + 1) (by omega)
    repeat (refine R_s kC9 rfl rfl ?_)
    refine R_get kC9 rfl (ho) rfl ?_
    refine R_ge kC9 rfl (rfl) (rfl) (by omega) (by omega) (fun hc => ?_) (fun hc => ?_)
    · omega
    · repeat (refine R_s kC9 rfl rfl ?_)
      refine R_cv kC9 rfl rfl rfl rfl (ho) (by decide) (sp_MO_rises d hm hn hn2 h0 hz hb hf (by omega)) ?_
      repeat (refine R_s kC9 rfl rfl ?_)
      refine Rr_ne kC9 rfl (fun q => ?_) (fun q => ?_)
      · iterate 1 (refine R_s kC9 rfl rfl ?_)
        exact goon false (by unfold risenB; rw [decide_eq_false q])
      · iterate 1 (refine R_s kC9 rfl rfl ?_)
        refine R_g kC9 rfl ?_
        exact goon true (by unfold risenB; rw [decide_eq_true q])
theorem sp_MO_risen (d : Nat) (hm : mCel h k fed pl le fi G z) (hn : n ≤ 5) (hn2 : 2 ≤ n) (h0 : G 0 = nI n) (hS : ∀ s, s < 32 → G (1 + s) = b2i (bt S s)) (hb : c120 n S) (hI : caI z) (hfl : flOK n S) (v : Int32) : ∃ z' h', caI z' ∧ mCel h' k fed pl le fi G z' ∧ frm h h' ∧ Cl (d + 8) 214 [.ref 76, .int v] h (some (.int (risenR n S v))) h' := by
  have kC9 := co_MO_risen
  have ho := hm.1
  have hg := hm.2.1
  have ein := in_it (v := v) (m := n) (a := (nI n - nI 1).toInt64) (by rw [Int32.toInt_toInt64]; exact sub_ti (by omega) (by decide))
  unfold risenR
  cases hv : itI n v with
  | false =>
    refine ⟨z, h, hI, hm, frm.rfl, ?_⟩
    rw [if_neg (by decide)]
    refine Cl_of kC9 rfl rfl ?_
    repeat (refine R_s kC9 rfl rfl ?_)
    refine R_get kC9 rfl (ho) rfl ?_
    repeat (refine R_s kC9 rfl rfl ?_)
    refine R_ild kC9 rfl (hg) (rfl) (by decide) (by decide) ?_
    rw [h0]
    repeat (refine R_s kC9 rfl rfl ?_)
    refine R_cs kC9 rfl rfl rfl rfl (sp_MO_isIn (d + 7) _ _ _ h) ?_
    rw [show decide ((0 : Int64).toInt ≤ v.toInt64.toInt ∧ v.toInt64.toInt ≤ (nI n - nI 1).toInt64.toInt) = false from ein.trans hv]
    refine ZB_ne kC9 rfl (fun q => by cases q) (fun _ => ?_)
    repeat (refine R_s kC9 rfl rfl ?_)
    exact R_ri kC9 rfl ⟨rfl, rfl⟩
  | true =>
    obtain ⟨z', h', hz, hm', hf, hcl⟩ := st_finds d hm hn hn2 h0 hS hb hI
    refine ⟨z', h', hz.i hn, hm', hf, ?_⟩
    rw [if_pos rfl]
    refine Cl_of kC9 rfl rfl ?_
    repeat (refine R_s kC9 rfl rfl ?_)
    refine R_get kC9 rfl (ho) rfl ?_
    repeat (refine R_s kC9 rfl rfl ?_)
    refine R_ild kC9 rfl (hg) (rfl) (by decide) (by decide) ?_
    rw [h0]
    repeat (refine R_s kC9 rfl rfl ?_)
    refine R_cs kC9 rfl rfl rfl rfl (sp_MO_isIn (d + 7) _ _ _ h) ?_
    rw [show decide ((0 : Int64).toInt ≤ v.toInt64.toInt ∧ v.toInt64.toInt ≤ (nI n - nI 1).toInt64.toInt) = true from ein.trans hv]
    refine ZB_ne kC9 rfl (fun _ => ?_) (fun q => by cases q)
    repeat (refine R_s kC9 rfl rfl ?_)
    refine R_cv kC9 rfl rfl rfl rfl ho (by decide) hcl ?_
    iterate 4 (refine R_s kC9 rfl rfl ?_)
    exact lp_risen (d + 6) hm' hn hn2 h0 hz hb hfl v (cornS n S).length 0 (by omega)
theorem sp_MO_at (d : Nat) (hm : mCel h k fed pl le fi G z) (hn : n ≤ 5) (hn2 : 2 ≤ n) (h0 : G 0 = nI n) (hS : ∀ s, s < 32 → G (1 + s) = b2i (bt S s)) (hb : c120 n S) (hI : caI z) (v w : Int32) : ∃ z' h', caI z' ∧ mCel h' k fed pl le fi G z' ∧ frm h h' ∧ Cl (d + 9) 215 [.ref 76, .int v, .int w] h (some (.int (atR n S v w))) h' := by
  obtain ⟨z', h', hz, hm', hf, hcl⟩ := sp_MO_isCorner d hm hn hn2 h0 hS hb hI v
  refine ⟨z', h', hz.i hn, hm', hf, ?_⟩
  have ho := hm.1
  have ho' := hm'.1
  have hg' := hm'.2.1
  have hst' := hm'.2.2.2.2.2.2.1
  have hl : (cornS n S).length ≤ 120 := by rw [cornS_len]; exact hb
  have kC9 := co_MO_at
  refine Cl_of kC9 rfl rfl ?_
  unfold atR
  repeat (refine R_s kC9 rfl rfl ?_)
  refine R_cv kC9 rfl rfl rfl rfl ho (by decide) hcl ?_
  refine ZB_eq kC9 rfl (fun hc => ?_) (fun hc => ?_)
  · rw [hc, Bool.false_and, if_neg (by decide)]
    repeat (refine R_s kC9 rfl rfl ?_)
    exact R_ri kC9 rfl ⟨rfl, rfl⟩
  · have h1 := hc
    repeat (refine R_s kC9 rfl rfl ?_)
    refine R_cv kC9 rfl rfl rfl rfl ho' (by decide) (sp_MO_isPoint (d + 7) ho' hg' hn (by omega) h0 w) ?_
    refine ZB_eq kC9 rfl (fun hc => ?_) (fun hc => ?_)
    · rw [hc, Bool.and_false, if_neg (by decide)]
      repeat (refine R_s kC9 rfl rfl ?_)
      exact R_ri kC9 rfl ⟨rfl, rfl⟩
    · have h2 := hc
      rw [h1, h2, Bool.true_and, if_pos rfl]
      obtain ⟨c, c1, c2, rfl⟩ := itI_of h1
      obtain ⟨p, p1, p2, rfl⟩ := ptB_of h2
      rw [nI_clamp c2, nI_clamp p2]
      repeat (refine R_s kC9 rfl rfl ?_)
      refine R_get kC9 rfl (ho') rfl ?_
      repeat (refine R_s kC9 rfl rfl ?_)
      refine R_ild kC9 rfl hst' (k := 5 * c + p) (show nI 5 * nI c + nI p = _ by rw [pk_mul, nI_add]) (by omega) (by decide) ?_
      rw [hz.st c1 (by omega)]
      refine R_g kC9 rfl ?_
      exact R_ri kC9 rfl ⟨rfl, rfl⟩
theorem sp_MO_set (d : Nat) (hm : mCel h k fed pl le fi G z) (hn : n ≤ 5) (hn2 : 2 ≤ n) (h0 : G 0 = nI n) (hS : ∀ s, s < 32 → G (1 + s) = b2i (bt S s)) (hb : c120 n S) (hI : caI z) (v w : Int32) : ∃ z' h', caI z' ∧ mCel h' k fed pl le fi G z' ∧ frm h h' ∧ Cl (d + 9) 216 [.ref 76, .int v, .int w] h (some (.int (setR n S v w))) h' := by
  obtain ⟨z', h', hz, hm', hf, hcl⟩ := sp_MO_isCorner d hm hn hn2 h0 hS hb hI v
  refine ⟨z', h', hz.i hn, hm', hf, ?_⟩
  have ho := hm.1
  have ho' := hm'.1
  have hg' := hm'.2.1
  have hC' := hm'.2.2.2.2.2.1
  have hl : (cornS n S).length ≤ 120 := by rw [cornS_len]; exact hb
  have ein := in_it (v := w) (m := n - 1) (a := (nI n - nI 2).toInt64) (by rw [Int32.toInt_toInt64, sub_ti (by omega) (by decide)]; omega)
  have kC9 := co_MO_set
  refine Cl_of kC9 rfl rfl ?_
  unfold setR
  repeat (refine R_s kC9 rfl rfl ?_)
  refine R_cv kC9 rfl rfl rfl rfl ho (by decide) hcl ?_
  refine ZB_eq kC9 rfl (fun hc => ?_) (fun hc => ?_)
  · rw [hc, Bool.false_and, if_neg (by decide)]
    repeat (refine R_s kC9 rfl rfl ?_)
    exact R_ri kC9 rfl ⟨rfl, rfl⟩
  · have h1 := hc
    repeat (refine R_s kC9 rfl rfl ?_)
    refine R_get kC9 rfl (ho') rfl ?_
    repeat (refine R_s kC9 rfl rfl ?_)
    refine R_ild kC9 rfl (hg') (rfl) (by decide) (by decide) ?_
    rw [h0]
    repeat (refine R_s kC9 rfl rfl ?_)
    refine R_cs kC9 rfl rfl rfl rfl (sp_MO_isIn (d + 8) _ _ _ h') ?_
    rw [show decide ((0 : Int64).toInt ≤ w.toInt64.toInt ∧ w.toInt64.toInt ≤ (nI n - nI 2).toInt64.toInt) = itI (n - 1) w from ein]
    refine ZB_eq kC9 rfl (fun hc => ?_) (fun hc => ?_)
    · rw [hc, Bool.and_false, if_neg (by decide)]
      repeat (refine R_s kC9 rfl rfl ?_)
      exact R_ri kC9 rfl ⟨rfl, rfl⟩
    · have h2 := hc
      rw [h1, h2, Bool.true_and, if_pos rfl]
      obtain ⟨c, c1, c2, rfl⟩ := itI_of h1
      obtain ⟨p, p1, p2, rfl⟩ := itI_of h2
      have hcx : (cornS n S)[c]? = some ((cornS n S).getD c []) := by rw [List.getD_eq_getElem?_getD, List.getElem?_eq_getElem c1]; rfl
      have hok := corn_ok hn hn2 (List.mem_of_getElem? hcx)
      have eC : z'.2.2.2.1 c = chM ((cornS n S).getD c []) := hz.2.2.2.1 c _ hcx
      rw [nI_clamp c2, nI_clamp p2]
      repeat (refine R_s kC9 rfl rfl ?_)
      refine R_cv kC9 rfl rfl rfl rfl ho' (by decide) (sp_MO_setOf (d + 8) ho' hC' (c := c) (i := p) (by omega) p2) ?_
      rw [eC, nth_chM hok.2.2 (by omega)]
      refine R_g kC9 rfl ?_
      exact R_ri kC9 rfl ⟨rfl, rfl⟩
theorem sp_MO_flip (d : Nat) (hm : mCel h k fed pl le fi G z) (hn : n ≤ 5) (hn2 : 2 ≤ n) (h0 : G 0 = nI n) (hS : ∀ s, s < 32 → G (1 + s) = b2i (bt S s)) (hb : c120 n S) (hI : caI z) (hfl : flOK n S) (v w : Int32) : ∃ z' h', caI z' ∧ mCel h' k fed pl le fi G z' ∧ frm h h' ∧ Cl (d + 9) 217 [.ref 76, .int v, .int w] h (some (.int (flipR n S v w))) h' := by
  obtain ⟨z', h', hz, hm', hf, hcl⟩ := sp_MO_isCorner d hm hn hn2 h0 hS hb hI v
  refine ⟨z', h', hz.i hn, hm', hf, ?_⟩
  have ho := hm.1
  have ho' := hm'.1
  have hg' := hm'.2.1
  have hnr' := hm'.2.2.2.2.2.2.2
  have hl : (cornS n S).length ≤ 120 := by rw [cornS_len]; exact hb
  have ein := in_it (v := w) (m := n - 1) (a := (nI n - nI 2).toInt64) (by rw [Int32.toInt_toInt64, sub_ti (by omega) (by decide)]; omega)
  have kC9 := co_MO_flip
  refine Cl_of kC9 rfl rfl ?_
  unfold flipR
  repeat (refine R_s kC9 rfl rfl ?_)
  refine R_cv kC9 rfl rfl rfl rfl ho (by decide) hcl ?_
  refine ZB_eq kC9 rfl (fun hc => ?_) (fun hc => ?_)
  · rw [hc, Bool.false_and, if_neg (by decide)]
    repeat (refine R_s kC9 rfl rfl ?_)
    exact R_ri kC9 rfl ⟨rfl, rfl⟩
  · have h1 := hc
    repeat (refine R_s kC9 rfl rfl ?_)
    refine R_get kC9 rfl (ho') rfl ?_
    repeat (refine R_s kC9 rfl rfl ?_)
    refine R_ild kC9 rfl (hg') (rfl) (by decide) (by decide) ?_
    rw [h0]
    repeat (refine R_s kC9 rfl rfl ?_)
    refine R_cs kC9 rfl rfl rfl rfl (sp_MO_isIn (d + 8) _ _ _ h') ?_
    rw [show decide ((0 : Int64).toInt ≤ w.toInt64.toInt ∧ w.toInt64.toInt ≤ (nI n - nI 2).toInt64.toInt) = itI (n - 1) w from ein]
    refine ZB_eq kC9 rfl (fun hc => ?_) (fun hc => ?_)
    · rw [hc, Bool.and_false, if_neg (by decide)]
      repeat (refine R_s kC9 rfl rfl ?_)
      exact R_ri kC9 rfl ⟨rfl, rfl⟩
    · have h2 := hc
      rw [h1, h2, Bool.true_and, if_pos rfl]
      obtain ⟨c, c1, c2, rfl⟩ := itI_of h1
      obtain ⟨p, p1, p2, rfl⟩ := itI_of h2
      obtain ⟨f1, f2⟩ := hfl.at c1 p1
      rw [nI_clamp c2, nI_clamp p2]
      repeat (refine R_s kC9 rfl rfl ?_)
      refine R_get kC9 rfl (ho') rfl ?_
      repeat (refine R_s kC9 rfl rfl ?_)
      refine R_ild kC9 rfl hnr' (k := 4 * c + p) (show nI 4 * nI c + nI p = _ by rw [pk_mul, nI_add]) (by omega) (by decide) ?_
      rw [hz.2.2.2.2.2 c p c1 p1, f2]
      refine R_g kC9 rfl ?_
      exact R_ri kC9 rfl ⟨rfl, rfl⟩
theorem lp_leastI (d : Nat) (Q : Option Value → AH → Prop) (hm : mCel h k fed pl le fi G z) (hn : n ≤ 5) (h0 : G 0 = nI n) (hz : caZ n S z) (hb : c120 n S) {s c : Nat} (hs : s < 32) (hcl : c < (cornS n S).length) (w2 : Int32) (kk : R (d + 1) 220 37 [some (.ref 76), some (.int (nI s)), some (.int w2), some (.int (nI c)), some (.int (nI (smS s (crow n S c) n))), some (.int (nI n))] [] h Q) : ∀ (m p : Nat), p + m = n → R (d + 1) 220 12 [some (.ref 76), some (.int (nI s)), some (.int w2), some (.int (nI c)), some (.int (nI (smS s (crow n S c) p))), some (.int (nI p))] [] h Q := by
  have kC9 := co_MO_leastOn
  have ho := hm.1
  have hg := hm.2.1
  have hst := hm.2.2.2.2.2.2.1
  have hl : (cornS n S).length ≤ 120 := by rw [cornS_len]; exact hb
  intro m
  induction m with
  | zero =>
    intro p hp
    repeat (refine R_s kC9 rfl rfl ?_)
    refine R_get kC9 rfl (ho) rfl ?_
    repeat (refine R_s kC9 rfl rfl ?_)
    refine R_ild kC9 rfl (hg) (rfl) (by decide) (by decide) ?_
    rw [h0]
    refine R_ge kC9 rfl (rfl) (rfl) (by omega) (by omega) (fun hc => ?_) (fun hc => ?_)
    · have : p = n := by omega
      subst this
      exact kk
    · omega
  | succ m ih =>
    intro p hp
    have goon : ∀ v : Nat, v = (if s.testBit p = true then crow n S c p else 0) → R (d + 1) 220 33 [some (.ref 76), some (.int (nI s)), some (.int w2), some (.int (nI c)), some (.int (nI (smS s (crow n S c) p))), some (.int (nI p))] [.int (nI v), .int (nI (smS s (crow n S c) p))] h Q := by
      intro v hv
      subst hv
      repeat (refine R_s kC9 rfl rfl ?_)
      refine R_g kC9 rfl ?_
      refine (show R (d + 1) 220 12 [some (.ref 76), some (.int (nI s)), some (.int w2), some (.int (nI c)), some (.int (nI (smS s (crow n S c) p) + nI (if s.testBit p = true then crow n S c p else 0))), some (.int (nI p + nI 1))] [] h Q from ?_)
      rw [nI_add, nI_add, ← smS_succ]
      exact ih (p + 1) (by omega)
    repeat (refine R_s kC9 rfl rfl ?_)
    refine R_get kC9 rfl (ho) rfl ?_
    repeat (refine R_s kC9 rfl rfl ?_)
    refine R_ild kC9 rfl (hg) (rfl) (by decide) (by decide) ?_
    rw [h0]
    refine R_ge kC9 rfl (rfl) (rfl) (by omega) (by omega) (fun hc => ?_) (fun hc => ?_)
    · omega
    · repeat (refine R_s kC9 rfl rfl ?_)
      refine R_cs kC9 rfl rfl rfl rfl (sp_MO_has d (by omega) (by omega) h) ?_
      refine ZB_eq kC9 rfl (fun q => ?_) (fun q => ?_)
      · iterate 1 (refine R_s kC9 rfl rfl ?_)
        exact goon 0 (by rw [q, if_neg (by decide)])
      · repeat (refine R_s kC9 rfl rfl ?_)
        refine R_get kC9 rfl (ho) rfl ?_
        repeat (refine R_s kC9 rfl rfl ?_)
        refine R_ild kC9 rfl hst (k := 5 * c + p) (show nI 5 * nI c + nI p = _ by rw [pk_mul, nI_add]) (by omega) (by decide) ?_
        rw [hz.st hcl (by omega)]
        refine R_g kC9 rfl ?_
        exact goon _ (by rw [if_pos q])
theorem lp_leastO (d : Nat) (hm : mCel h k fed pl le fi G z) (hn : n ≤ 5) (h0 : G 0 = nI n) (hz : caZ n S z) (hb : c120 n S) {s : Nat} (hs : s < 32) : ∀ (m c : Nat) (w4 w5 : Option Value), c + m = (cornS n S).length → R (d + 1) 220 4 [some (.ref 76), some (.int (nI s)), some (.int (optI (lsO (fun c => smS s (crow n S c) n) c))), some (.int (nI c)), w4, w5] [] h (fun r2 h2 => r2 = some (.int (optI (lsO (fun c => smS s (crow n S c) n) (cornS n S).length))) ∧ h2 = h) := by
  have kC9 := co_MO_leastOn
  have ho := hm.1
  rw [hz.2.2.1] at ho
  have hl : (cornS n S).length ≤ 120 := by rw [cornS_len]; exact hb
  have hsm : ∀ c, smS s (crow n S c) n < 161 := fun c => by have := smS_lt (r := crow n S c) (fun p => rowF_le _ _ _ p) s n; omega
  intro m
  induction m with
  | zero =>
    intro c w4 w5 hc
    repeat (refine R_s kC9 rfl rfl ?_)
    refine R_get kC9 rfl (ho) rfl ?_
    refine R_ge kC9 rfl (rfl) (rfl) (by omega) (by omega) (fun hc => ?_) (fun hc => ?_)
    · repeat (refine R_s kC9 rfl rfl ?_)
      have : c = (cornS n S).length := by omega
      rw [this]
      exact R_ri kC9 rfl ⟨rfl, rfl⟩
    · omega
  | succ m ih =>
    intro c w4 w5 hc
    repeat (refine R_s kC9 rfl rfl ?_)
    refine R_get kC9 rfl (ho) rfl ?_
    refine R_ge kC9 rfl (rfl) (rfl) (by omega) (by omega) (fun hc => ?_) (fun hc => ?_)
    · omega
    · iterate 4 (refine R_s kC9 rfl rfl ?_)
      refine lp_leastI d _ hm hn h0 hz hb hs (c := c) (by omega) _ ?_ n 0 (by omega)
      have goon : ∀ v : Int32, v = optI (lsO (fun c => smS s (crow n S c) n) (c + 1)) → R (d + 1) 220 46 [some (.ref 76), some (.int (nI s)), some (.int (optI (lsO (fun c => smS s (crow n S c) n) c))), some (.int (nI c)), some (.int (nI (smS s (crow n S c) n))), some (.int (nI n))] [.int v] h (fun r2 h2 => r2 = some (.int (optI (lsO (fun c => smS s (crow n S c) n) (cornS n S).length))) ∧ h2 = h) := by
        intro v hv
        subst hv
        repeat (refine R_s kC9 rfl rfl ?_)
        refine R_g kC9 rfl ?_
        refine (show R (d + 1) 220 4 [some (.ref 76), some (.int (nI s)), some (.int (optI (lsO (fun c => smS s (crow n S c) n) (c + 1)))), some (.int (nI c + nI 1)), some (.int (nI (smS s (crow n S c) n))), some (.int (nI n))] [] h _ from ?_)
        rw [nI_add]
        exact ih (c + 1) _ _ (by omega)
      cases hq : lsO (fun c => smS s (crow n S c) n) c with
      | none =>
        rw [hq] at goon
        repeat (refine R_s kC9 rfl rfl ?_)
        refine Rr_eq kC9 rfl (fun _ => ?_) (fun q => absurd rfl q)
        iterate 1 (refine R_s kC9 rfl rfl ?_)
        refine R_g kC9 rfl ?_
        exact goon _ (by rw [lsO_succ, hq]; rfl)
      | some l =>
        have hl2 := lsO_lt hsm c l hq
        rw [hq] at goon
        repeat (refine R_s kC9 rfl rfl ?_)
        refine Rr_eq kC9 rfl (fun q => ?_) (fun _ => ?_)
        · have e1 : (nI l).toInt = (l : Int) := nI_toInt (by omega)
          have q : nI l = -5 := q
          rw [q] at e1
          have e5 : (-5 : Int32).toInt = -5 := by decide
          omega
        · repeat (refine R_s kC9 rfl rfl ?_)
          refine R_ge kC9 rfl rfl rfl (by have := hsm c; omega) (by omega) (fun q => ?_) (fun q => ?_)
          · iterate 1 (refine R_s kC9 rfl rfl ?_)
            exact goon _ (by rw [lsO_succ, hq]; dsimp only; rw [if_neg (by omega)])
          · iterate 1 (refine R_s kC9 rfl rfl ?_)
            refine R_g kC9 rfl ?_
            exact goon _ (by rw [lsO_succ, hq]; dsimp only; rw [if_pos q]; rfl)
theorem sp_MO_leastOn (d : Nat) (hm : mCel h k fed pl le fi G z) (hn : n ≤ 5) (h0 : G 0 = nI n) (hz : caZ n S z) (hb : c120 n S) {s : Nat} (hs : s < 32) : Cl (d + 1) 220 [.ref 76, .int (nI s)] h (some (.int (optI (lsO (fun c => smS s (crow n S c) n) (cornS n S).length)))) h := by
  have kC9 := co_MO_leastOn
  refine Cl_of kC9 rfl rfl ?_
  iterate 4 (refine R_s kC9 rfl rfl ?_)
  exact lp_leastO d hm hn h0 hz hb hs (cornS n S).length 0 none none (by omega)
theorem sp_MO_face (d : Nat) (hm : mCel h k fed pl le fi G z) (hn : n ≤ 5) (hn2 : 2 ≤ n) (h0 : G 0 = nI n) (hS : ∀ s, s < 32 → G (1 + s) = b2i (bt S s)) (hb : c120 n S) (hI : caI z) (v w : Int32) : ∃ z' h', caI z' ∧ mCel h' k fed pl le fi G z' ∧ frm h h' ∧ Cl (d + 9) 221 [.ref 76, .int v, .int w] h (some (.int (faceR n S v w))) h' := by
  have kC9 := co_MO_face
  have ho := hm.1
  have hg := hm.2.1
  have hp := pow5 hn
  cases hall : (inF n S v && !decide (v = nI (2 ^ n - 1)) && decide (0 ≤ w.toInt ∧ w.toInt ≤ 2)) with
  | false =>
    refine ⟨z, h, hI, hm, frm.rfl, ?_⟩
    unfold faceR
    rw [hall, if_neg (by decide)]
    refine Cl_of kC9 rfl rfl ?_
    repeat (refine R_s kC9 rfl rfl ?_)
    refine R_cv kC9 rfl rfl rfl rfl (ho) (by decide) (sp_MO_isThere (d + 6) ho hg hn h0 hS v) ?_
    have out : R (d + 9) 221 14 [some (.ref 76), some (.int v), some (.int w)] [] h (fun r2 h2 => r2 = some (.int (-1)) ∧ h2 = h) := by
      repeat (refine R_s kC9 rfl rfl ?_)
      exact R_ri kC9 rfl ⟨rfl, rfl⟩
    refine ZB_eq kC9 rfl (fun _ => out) (fun q1 => ?_)
    repeat (refine R_s kC9 rfl rfl ?_)
    refine R_cv kC9 rfl rfl rfl rfl (ho) (by decide) (sp_MO_whole (d + 8) ho hg hn h0) ?_
    refine Rr_eq kC9 rfl (fun _ => out) (fun q2 => ?_)
    repeat (refine R_s kC9 rfl rfl ?_)
    refine R_cs kC9 rfl rfl rfl rfl (sp_MO_isIn (d + 8) _ _ _ h) ?_
    rw [in_dec (x := 0) (y := 2) (by decide) (by decide)]
    refine ZB_ne kC9 rfl (fun q3 => ?_) (fun _ => out)
    rw [q1, q3, decide_eq_false q2] at hall
    cases hall
  | true =>
    have hall2 := hall
    simp only [Bool.and_eq_true, Bool.not_eq_true', decide_eq_false_iff_not, decide_eq_true_eq] at hall2
    obtain ⟨⟨q1, q2⟩, q3⟩ := hall2
    have hv2 := q1
    unfold inF at hv2
    rw [Bool.and_eq_true] at hv2
    obtain ⟨s, s1, s2, s3, rfl⟩ := setB_of hn hv2.1
    obtain ⟨z1, h1, hz1, hm1, hf1, hcl1⟩ := st_finds (d + 1) hm hn hn2 h0 hS hb hI
    have ho1 := hm1.1
    obtain ⟨z2, h2, hz2, hm2, hf2, hcl2⟩ := sp_MO_having d hm1 hn hn2 h0 hS hb (hz1.i hn) (nI 1 <<< (nI s &&& 31)) (decide (w = 1))
    have head : ∀ (Q : Option Value → AH → Prop), R (d + 9) 221 18 [some (.ref 76), some (.int (nI s)), some (.int w)] [] h1 Q → R (d + 9) 221 0 [some (.ref 76), some (.int (nI s)), some (.int w)] [] h Q := by
      intro Q kk
      repeat (refine R_s kC9 rfl rfl ?_)
      refine R_cv kC9 rfl rfl rfl rfl (ho) (by decide) (sp_MO_isThere (d + 6) ho hg hn h0 hS (nI s)) ?_
      refine ZB_eq kC9 rfl (fun q => by rw [q1] at q; cases q) (fun _ => ?_)
      repeat (refine R_s kC9 rfl rfl ?_)
      refine R_cv kC9 rfl rfl rfl rfl (ho) (by decide) (sp_MO_whole (d + 8) ho hg hn h0) ?_
      refine Rr_eq kC9 rfl (fun q => absurd q q2) (fun _ => ?_)
      repeat (refine R_s kC9 rfl rfl ?_)
      refine R_cs kC9 rfl rfl rfl rfl (sp_MO_isIn (d + 8) _ _ _ h) ?_
      rw [in_dec (x := 0) (y := 2) (by decide) (by decide)]
      refine ZB_ne kC9 rfl (fun _ => ?_) (fun q => absurd q3 (of_decide_eq_false q))
      repeat (refine R_s kC9 rfl rfl ?_)
      refine R_cv kC9 rfl rfl rfl rfl ho (by decide) hcl1 ?_
      exact kk
    unfold faceR
    rw [hall, if_pos rfl, nI_clamp (by omega)]
    by_cases hw : w = 2
    · refine ⟨z1, h1, hz1.i hn, hm1, hf1, ?_⟩
      rw [if_pos hw]
      subst hw
      refine Cl_of kC9 rfl rfl (head _ ?_)
      repeat (refine R_s kC9 rfl rfl ?_)
      refine Rr_ne kC9 rfl (fun q => absurd rfl q) (fun _ => ?_)
      repeat (refine R_s kC9 rfl rfl ?_)
      refine R_cv kC9 rfl rfl rfl rfl ho1 (by decide) (sp_MO_leastOn (d + 7) hm1 hn h0 hz1 hb s3) ?_
      refine R_g kC9 rfl ?_
      exact R_ri kC9 rfl ⟨rfl, rfl⟩
    · refine ⟨z2, h2, hz2.i hn, hm2, hf1.trans hf2, ?_⟩
      rw [if_neg hw]
      refine Cl_of kC9 rfl rfl (head _ ?_)
      repeat (refine R_s kC9 rfl rfl ?_)
      refine Rr_ne kC9 rfl (fun _ => ?_) (fun q => absurd q hw)
      repeat (refine R_s kC9 rfl rfl ?_)
      have fin : R (d + 9) 221 35 [some (.ref 76), some (.int (nI s)), some (.int w)] [.int (b2i (decide (w = 1))), .int (nI 1 <<< (nI s &&& 31)), .ref 76] h1 (fun r2 h2' => r2 = some (.int (nI (havR n S (nI 1 <<< (nI s &&& 31)) (decide (w = 1)) (cornM n S) 0 0))) ∧ h2' = h2) := by
        refine R_cv kC9 rfl rfl rfl rfl ho1 (by decide) hcl2 ?_
        exact R_ri kC9 rfl ⟨rfl, rfl⟩
      refine Rr_ne kC9 rfl (fun q => ?_) (fun q => ?_)
      · iterate 1 (refine R_s kC9 rfl rfl ?_)
        rw [decide_eq_false (show ¬ w = 1 from q)] at fin ⊢
        exact fin
      · iterate 1 (refine R_s kC9 rfl rfl ?_)
        refine R_g kC9 rfl ?_
        rw [decide_eq_true (show w = 1 from q)] at fin ⊢
        exact fin
end
