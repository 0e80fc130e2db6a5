/-! THE SPECIFICATION, 3, and THE REFERENCE, 18: tapes -/
/-- tapes: sort, items -/
abbrev TPS : Type := Nat → Int32 × List Int64
def TPok (T : TPS) : Prop := ∀ t, t < 6 → (T t).2.length ≤ 60 ∧ (((T t).1 = -1 ∧ (T t).2 = []) ∨ ∃ o, o ≤ 4 ∧ (T t).1 = nI o)
def TPM (T : TPS) (Sf Zf : Nat → Int32) (If : Nat → Int64) : Prop := ∀ t, t < 6 → Sf t = (T t).1 ∧ Zf t = nI (T t).2.length ∧ ∀ i x, (T t).2[i]? = some x → If (60 * t + i) = x
def updT (T : TPS) (t : Nat) (z : Int32 × List Int64) : TPS := fun q => if q = t then z else T q
theorem updT_s (T : TPS) (t : Nat) (z : Int32 × List Int64) : updT T t z t = z := if_pos rfl
theorem updT_n (T : TPS) {t q : Nat} (z : Int32 × List Int64) (h : q ≠ t) : updT T t z q = T q := if_neg h
def tpI (v : Int32) : Bool := decide (0 ≤ v.toInt ∧ v.toInt ≤ 5)
theorem tpI_of {v : Int32} (h : tpI v = true) : ∃ t, t < 6 ∧ v = nI t := by
  unfold tpI at h
  rw [decide_eq_true_eq] at h
  obtain ⟨k, _, k2, _, rfl⟩ := rng_nI (a := 0) (b := 5) h
  exact ⟨k, by omega, rfl⟩
def itI (z : Nat) (v : Int32) : Bool := decide (0 ≤ v.toInt ∧ v.toInt < z)
theorem itI_of {z : Nat} {v : Int32} (h : itI z v = true) : ∃ i, i < z ∧ i < 2 ^ 31 ∧ v = nI i := ptB_of h
theorem sub_ti {a b : Nat} (ha : a < 2 ^ 31) (hb : b < 2 ^ 31) : (nI a - nI b).toInt = (a : Int) - b := by
  rw [Int32.toInt_sub, nI_toInt ha, nI_toInt hb]
  exact Int.bmod_eq_of_le (by omega) (by omega)
theorem lg_eq0 (x y : Int64) : lg_cmp x y = 0 ↔ x = y := by
  have h1 := lg_lt0 x y
  have h2 := lg_gt0 x y
  rw [Int32.lt_iff_toInt_lt, Int64.lt_iff_toInt_lt] at h1 h2
  have e0 : (0 : Int32).toInt = 0 := by decide
  constructor
  · intro q
    rw [q] at h1 h2
    exact Int64.toInt_inj.mp (by omega)
  · intro q
    subst q
    exact Int32.toInt_inj.mp (by omega)
def liesF (o : Int32) (v : Int64) : Int64 := if o = 0 then v.toInt32.toInt8.toInt32.toInt64 else if o = 1 then v.toInt32.toInt16.toInt32.toInt64 else if o = 2 then v.toInt32.toInt64 else if o = 3 then v else if v = 0 then 0 else 1
def specTape (T : TPS) (t o n : Int32) : Int32 × TPS := if tpI t = true then (if ¬ (-1 ≤ o.toInt ∧ o.toInt ≤ 4) ∨ (¬ o = -1 ∧ 60 < n.toInt) then (-2, T) else if ¬ o = -1 ∧ n.toInt < 0 then (-14, T) else (1, updT T t.toNatClampNeg (o, List.replicate (if o = -1 then 0 else n.toNatClampNeg) 0))) else (-1, T)
def specItem (T : TPS) (t i : Int32) (v : Int64) : Int32 × TPS := if tpI t = true then (if (T t.toNatClampNeg).1 = -1 then (-11, T) else if itI (T t.toNatClampNeg).2.length i = true then (1, updT T t.toNatClampNeg ((T t.toNatClampNeg).1, (T t.toNatClampNeg).2.set i.toNatClampNeg (liesF (T t.toNatClampNeg).1 v))) else (-13, T)) else (-1, T)
def peekR (T : TPS) (t i : Int32) : Int64 := if tpI t = true ∧ itI (T t.toNatClampNeg).2.length i = true then (T t.toNatClampNeg).2.getD i.toNatClampNeg 0 else -9223372036854775808
def cpyL (src dst : List Int64) (i j n : Nat) : List Int64 := (List.range dst.length).map (fun q => if j ≤ q ∧ q < j + n then src.getD (i + (q - j)) 0 else dst.getD q 0)
def shNo (a b : Nat) (i j n : Int32) : Prop := n.toInt < 0 ∨ i.toInt < 0 ∨ j.toInt < 0 ∨ (a : Int) - i.toInt < n.toInt ∨ (b : Int) - j.toInt < n.toInt
noncomputable def specShift (T : TPS) (t i o j n : Int32) : Int32 × TPS := if (tpI t && tpI o) = true then (if (T t.toNatClampNeg).1 = -1 ∨ (T o.toNatClampNeg).1 = -1 then (-11, T) else if ¬ (T t.toNatClampNeg).1 = (T o.toNatClampNeg).1 then (-12, T) else if pb (shNo (T t.toNatClampNeg).2.length (T o.toNatClampNeg).2.length i j n) = true then (-13, T) else (n, updT T o.toNatClampNeg ((T o.toNatClampNeg).1, cpyL (T t.toNatClampNeg).2 (T o.toNatClampNeg).2 i.toNatClampNeg j.toNatClampNeg n.toNatClampNeg))) else (-1, T)
def jdF (its : List Int64) (i : Int32) : List Nat → Nat → Int32
  | [], _ => -5
  | s :: l, k => if i.toInt < 0 ∨ (its.length : Int) - i.toInt ≤ k then nI (100 + k) else if its.getD (i.toNatClampNeg + k) 0 = (nI s).toInt64 then jdF its i l (k + 1) else nI k
theorem jdF_cons (its : List Int64) (i : Int32) (s : Nat) (l : List Nat) (k : Nat) : jdF its i (s :: l) k = if i.toInt < 0 ∨ (its.length : Int) - i.toInt ≤ k then nI (100 + k) else if its.getD (i.toNatClampNeg + k) 0 = (nI s).toInt64 then jdF its i l (k + 1) else nI k := rfl
def judgeR (T : TPS) (S t i : Int32) : Int32 := if tpI t = true then (if ¬ (T t.toNatClampNeg).1 = -1 ∧ ¬ (T t.toNatClampNeg).1 = 1 then -12 else jdF (T t.toNatClampNeg).2 i (els S) 0) else -1
theorem nthF_els (P : Nat → Bool) : ∀ (m s k : Nat), nthF P m s k = (match ((List.range' s m).filter P)[k]? with | some x => nI x | none => -5)
  | 0, s, k => rfl
  | m + 1, s, k => by
    rw [nthF_succ, List.range'_succ]
    by_cases hp : P s = true
    · rw [if_pos hp, List.filter_cons_of_pos hp]
      cases k with
      | zero => rfl
      | succ k => rw [if_neg (by omega), Nat.add_sub_cancel, nthF_els P m (s + 1) k]; rfl
    · rw [if_neg hp, List.filter_cons_of_neg hp]
      exact nthF_els P m (s + 1) k
theorem els_r1 {S : Int32} (hb0 : bt S 0 = false) : els S = (List.range' 1 31).filter (bt S) := by
  unfold els
  rw [show List.range 32 = 0 :: List.range' 1 31 by decide, List.filter_cons_of_neg (by rw [hb0]; decide)]
theorem fam_els {S : Int32} (hb0 : bt S 0 = false) {k s : Nat} (hk : k < 2 ^ 31) (h : (els S)[k]? = some s) : famR S (nI k) = nI s := by
  have h0 : ¬ nI k < 0 := by
    rw [Int32.lt_iff_toInt_lt, nI_toInt hk]
    have : (0 : Int32).toInt = 0 := by decide
    omega
  unfold famR
  rw [if_neg h0, nI_clamp hk, nthF_els, ← els_r1 hb0, h]
section
variable {h : AH} {k fed pl le fi co : Int32} {G Sf Zf : Nat → Int32} {If : Nat → Int64} {T : TPS}
theorem sp_MO_isTape (d : Nat) (v : Int32) : Cl (d + 1) 237 [.int v] h (some (.int (b2i (tpI v)))) h := by
  have kC9 := co_MO_isTape
  refine Cl_of kC9 rfl rfl ?_
  repeat (refine R_s kC9 rfl rfl ?_)
  refine R_cs kC9 rfl rfl rfl rfl (sp_MO_isIn d _ _ _ h) ?_
  rw [in_dec (x := 0) (y := 5) (by decide) (by decide)]
  exact R_rb kC9 rfl ⟨rfl, rfl⟩
theorem sp_MO_isItem (d : Nat) (ho : h.2 76 = mob k fed pl le fi co) (hz : h.2 93 = ints 6 Zf) {t z : Nat} (ht : t < 6) (e : Zf t = nI z) (hz60 : z ≤ 60) (v : Int32) : Cl (d + 1) 238 [.ref 76, .int (nI t), .int v] h (some (.int (b2i (itI z v)))) h := by
  have kC9 := co_MO_isItem
  refine Cl_of kC9 rfl rfl ?_
  repeat (refine R_s kC9 rfl rfl ?_)
  refine R_get kC9 rfl (ho) rfl ?_
  repeat (refine R_s kC9 rfl rfl ?_)
  refine R_ild kC9 rfl (hz) (rfl) (ht) (by decide) ?_
  rw [e]
  repeat (refine R_s kC9 rfl rfl ?_)
  refine R_cs kC9 rfl rfl rfl rfl (sp_MO_isIn d _ _ _ h) ?_
  rw [in_dec (x := 0) (y := (z : Int) - 1) (by decide) (by rw [Int32.toInt_toInt64]; exact sub_ti (by omega) (by decide))]
  have e2 : decide (0 ≤ v.toInt ∧ v.toInt ≤ (z : Int) - 1) = itI z v := by
    unfold itI
    congr 1
    apply propext
    omega
  rw [e2]
  exact R_rb kC9 rfl ⟨rfl, rfl⟩
theorem updL_s (f : Nat → Int64) (k : Nat) (x : Int64) : vp_updL f k x k = x := if_pos rfl
theorem updL_n {f : Nat → Int64} {k j : Nat} {x : Int64} (h : j ≠ k) : vp_updL f k x j = f j := if_neg h
theorem lp_tape (d : Nat) (Q : Option Value → AH → Prop) (ho : h.2 76 = mob k fed pl le fi co) {t : Nat} (ht : t < 6) (v2 v3 : Int32) (kk : ∀ If', (∀ i, i < 60 → If' (60 * t + i) = 0) → (∀ q, q < 60 * t ∨ 60 * t + 60 ≤ q → If' q = If q) → Q (some (.int (nI 1))) (upH h 94 (longs 360 If'))) : ∀ (m i : Nat) (If' : Nat → Int64), i + m = 60 → (∀ j, j < i → If' (60 * t + j) = 0) → (∀ q, q < 60 * t ∨ 60 * t + 60 ≤ q → If' q = If q) → R d 243 43 [some (.ref 76), some (.int (nI t)), some (.int v2), some (.int v3), some (.int (nI i))] [] (upH h 94 (longs 360 If')) Q := by
  have kC9 := co_MO_tape
  intro m
  induction m with
  | zero =>
    intro i If' hi h1 h2
    repeat (refine R_s kC9 rfl rfl ?_)
    refine R_ge kC9 rfl (rfl) (rfl) (by omega) (by omega) (fun hc => ?_) (fun hc => ?_)
    · repeat (refine R_s kC9 rfl rfl ?_)
      exact R_ri kC9 rfl (kk If' (fun j hj => h1 j (by omega)) h2)
    · omega
  | succ m ih =>
    intro i If' hi h1 h2
    repeat (refine R_s kC9 rfl rfl ?_)
    refine R_ge kC9 rfl (rfl) (rfl) (by omega) (by omega) (fun hc => ?_) (fun hc => ?_)
    · omega
    · repeat (refine R_s kC9 rfl rfl ?_)
      refine R_get kC9 rfl (show (upH h 94 (longs 360 If')).2 76 = mob k fed pl le fi co from ho) rfl ?_
      repeat (refine R_s kC9 rfl rfl ?_)
      refine R_lst kC9 rfl (h := upH h 94 (longs 360 If')) rfl (by decide) (k := 60 * t + i) (show nI 60 * nI t + nI i = _ by rw [pk_mul, nI_add]) (by omega) (by decide) ?_
      rw [upH_upH]
      repeat (refine R_s kC9 rfl rfl ?_)
      refine R_g kC9 rfl ?_
      refine (show R d 243 43 [some (.ref 76), some (.int (nI t)), some (.int v2), some (.int v3), some (.int (nI i + nI 1))] [] (upH h 94 (longs 360 (vp_updL If' (60 * t + i) 0))) Q from ?_)
      rw [nI_add]
      refine ih (i + 1) _ (by omega) (fun j hj => ?_) (fun q hq => by rw [updL_n (by omega)]; exact h2 q hq)
      by_cases e : j = i
      · subst e; rw [updL_s]
      · rw [updL_n (by omega)]; exact h1 j (by omega)
theorem m1_toInt : (-1 : Int32).toInt = -1 := by decide
theorem sp_MO_tape (d : Nat) (ho : h.2 76 = mob k fed pl le fi co) (hs : h.2 92 = ints 6 Sf) (hz : h.2 93 = ints 6 Zf) (hi : h.2 94 = longs 360 If) (hT : TPM T Sf Zf If) (hok : TPok T) (t o n : Int32) : ∃ z : (Nat → Int32) × (Nat → Int32) × (Nat → Int64), TPM (specTape T t o n).2 z.1 z.2.1 z.2.2 ∧ Cl (d + 2) 243 [.ref 76, .int t, .int o, .int n] h (some (.int (specTape T t o n).1)) (upH (upH (upH h 92 (ints 6 z.1)) 93 (ints 6 z.2.1)) 94 (longs 360 z.2.2)) := by
  have kC9 := co_MO_tape
  refine Cl_ex (f := fun _ => some (.int (specTape T t o n).1)) (g := fun (z : (Nat → Int32) × (Nat → Int32) × (Nat → Int64)) => upH (upH (upH h 92 (ints 6 z.1)) 93 (ints 6 z.2.1)) 94 (longs 360 z.2.2)) kC9 rfl rfl ?_
  have same : h = upH (upH (upH h 92 (ints 6 Sf)) 93 (ints 6 Zf)) 94 (longs 360 If) := by
    rw [upH_self hs, upH_self hz, upH_self hi]
  unfold specTape
  repeat (refine R_s kC9 rfl rfl ?_)
  refine R_cs kC9 rfl rfl rfl rfl (sp_MO_isTape d t) ?_
  refine ZB_ne kC9 rfl (fun hc => ?_) (fun hc => ?_)
  · rw [if_pos hc]
    obtain ⟨t, ht, rfl⟩ := tpI_of hc
    rw [nI_clamp (by omega)]
    repeat (refine R_s kC9 rfl rfl ?_)
    refine R_cs kC9 rfl rfl rfl rfl (sp_MO_isIn (d + 1) _ _ _ h) ?_
    rw [in_dec (x := -1) (y := 4) (by decide) (by decide)]
    refine ZB_eq kC9 rfl (fun hc => ?_) (fun hc => ?_)
    · rw [if_pos (Or.inl (of_decide_eq_false hc))]
      repeat (refine R_s kC9 rfl rfl ?_)
      exact R_ri kC9 rfl ⟨(Sf, Zf, If), hT, rfl, same⟩
    · have hin := of_decide_eq_true hc
      have fin : ∀ (v : Int32) (z : Nat), v = nI z → z ≤ 60 → z = (if o = -1 then 0 else n.toNatClampNeg) → R (d + 2) 243 40 [some (.ref 76), some (.int (nI t)), some (.int o), some (.int n), none] [.int v, .int (nI t), .ref 93] (upH h 92 (ints 6 (upd Sf t o))) (fun r2 h2 => ∃ z : (Nat → Int32) × (Nat → Int32) × (Nat → Int64), TPM (updT T t (o, List.replicate (if o = -1 then 0 else n.toNatClampNeg) 0)) z.1 z.2.1 z.2.2 ∧ r2 = some (.int 1) ∧ h2 = upH (upH (upH h 92 (ints 6 z.1)) 93 (ints 6 z.2.1)) 94 (longs 360 z.2.2)) := by
        intro v z e1 hz60 e2
        subst e1
        rw [← e2]
        refine R_ist kC9 rfl (show (upH h 92 (ints 6 (upd Sf t o))).2 93 = ints 6 Zf from hz) (by decide) rfl ht (by decide) ?_
        iterate 2 (refine R_s kC9 rfl rfl ?_)
        refine (show R (d + 2) 243 43 [some (.ref 76), some (.int (nI t)), some (.int o), some (.int n), some (.int (nI 0))] [] (upH (upH h 92 (ints 6 (upd Sf t o))) 93 (ints 6 (upd Zf t (nI z)))) _ from ?_)
        rw [show upH (upH h 92 (ints 6 (upd Sf t o))) 93 (ints 6 (upd Zf t (nI z))) = upH (upH (upH h 92 (ints 6 (upd Sf t o))) 93 (ints 6 (upd Zf t (nI z)))) 94 (longs 360 If) from (upH_self (show (upH (upH h 92 (ints 6 (upd Sf t o))) 93 (ints 6 (upd Zf t (nI z)))).2 94 = longs 360 If from hi)).symm]
        refine lp_tape (If := If) (d + 2) _ (show (upH (upH h 92 (ints 6 (upd Sf t o))) 93 (ints 6 (upd Zf t (nI z)))).2 76 = mob k fed pl le fi co from ho) ht o n (fun If' h1 h2 => ⟨(upd Sf t o, upd Zf t (nI z), If'), fun q hq => ?_, rfl, rfl⟩) 60 0 If (by omega) (fun j hj => by omega) (fun q _ => rfl)
        dsimp only
        by_cases e : q = t
        · subst e
          rw [updT_s, pk_us, pk_us]
          refine ⟨rfl, by rw [List.length_replicate], fun i x hx => ?_⟩
          rw [List.getElem?_replicate] at hx
          split at hx
          · cases hx
            exact h1 i (by omega)
          · cases hx
        · rw [updT_n _ _ e, pk_un e, pk_un e]
          refine ⟨(hT q hq).1, (hT q hq).2.1, fun i x hx => ?_⟩
          have hlt := (List.getElem?_eq_some_iff.mp hx).1
          have h60 := (hok q hq).1
          rw [h2 _ (by omega)]
          exact (hT q hq).2.2 i x hx
      have go : ¬ (¬ o = -1 ∧ 60 < n.toInt) → ¬ (¬ o = -1 ∧ n.toInt < 0) → R (d + 2) 243 26 [some (.ref 76), some (.int (nI t)), some (.int o), some (.int n), none] [] h (fun r2 h2 => ∃ z : (Nat → Int32) × (Nat → Int32) × (Nat → Int64), TPM (updT T t (o, List.replicate (if o = -1 then 0 else n.toNatClampNeg) 0)) z.1 z.2.1 z.2.2 ∧ r2 = some (.int 1) ∧ h2 = upH (upH (upH h 92 (ints 6 z.1)) 93 (ints 6 z.2.1)) 94 (longs 360 z.2.2)) := by
        intro q1 q2
        repeat (refine R_s kC9 rfl rfl ?_)
        refine R_get kC9 rfl (ho) rfl ?_
        repeat (refine R_s kC9 rfl rfl ?_)
        refine R_ist kC9 rfl (hs) (by decide) (rfl) (ht) (by decide) ?_
        repeat (refine R_s kC9 rfl rfl ?_)
        refine R_get kC9 rfl (show (upH h 92 (ints 6 (upd Sf t o))).2 76 = mob k fed pl le fi co from ho) rfl ?_
        repeat (refine R_s kC9 rfl rfl ?_)
        refine Rr_ne kC9 rfl (fun q => ?_) (fun q => ?_)
        · iterate 1 (refine R_s kC9 rfl rfl ?_)
          have q : ¬ o = -1 := q
          have hnn : ¬ n < 0 := by
            rw [Int32.lt_iff_toInt_lt]
            have e0 : (0 : Int32).toInt = 0 := by decide
            intro z
            exact q2 ⟨q, by omega⟩
          obtain ⟨z, hz1, rfl⟩ := nI_of hnn
          refine fin _ z rfl ?_ (by rw [if_neg q, nI_clamp hz1])
          rcases Nat.lt_or_ge 60 z with c | c
          · exact absurd ⟨q, by rw [nI_toInt hz1]; omega⟩ q1
          · exact c
        · iterate 1 (refine R_s kC9 rfl rfl ?_)
          refine R_g kC9 rfl ?_
          exact fin _ 0 rfl (by omega) (by rw [if_pos q])
      repeat (refine R_s kC9 rfl rfl ?_)
      refine Rr_eq kC9 rfl (fun q => ?_) (fun q => ?_)
      · have q : o = -1 := q
        rw [if_neg (fun z => z.elim (fun z => z hin) (fun z => z.1 q)), if_neg (fun z => z.1 q)]
        repeat (refine R_s kC9 rfl rfl ?_)
        refine Rr_eq kC9 rfl (fun _ => ?_) (fun z => absurd q z)
        exact go (fun z => z.1 q) (fun z => z.1 q)
      · have q : ¬ o = -1 := q
        have e60 : (nI 60).toInt = 60 := by decide
        repeat (refine R_s kC9 rfl rfl ?_)
        refine Rr_le kC9 rfl (fun c => ?_) (fun c => ?_)
        · have c : ¬ 60 < n.toInt := by rw [Int32.le_iff_toInt_le, e60] at c; omega
          rw [if_neg (fun z => z.elim (fun z => z hin) (fun z => c z.2))]
          repeat (refine R_s kC9 rfl rfl ?_)
          refine Rr_eq kC9 rfl (fun z => absurd z q) (fun _ => ?_)
          repeat (refine R_s kC9 rfl rfl ?_)
          have e0 : (0 : Int32).toInt = 0 := by decide
          refine Zr_ge kC9 rfl (fun c2 => ?_) (fun c2 => ?_)
          · rw [Int32.le_iff_toInt_le, e0] at c2
            rw [if_neg (fun z => by omega)]
            exact go (fun z => c z.2) (fun z => by omega)
          · rw [Int32.le_iff_toInt_le, e0] at c2
            rw [if_pos ⟨q, by omega⟩]
            repeat (refine R_s kC9 rfl rfl ?_)
            exact R_ri kC9 rfl ⟨(Sf, Zf, If), hT, rfl, same⟩
        · have c : 60 < n.toInt := by rw [Int32.le_iff_toInt_le, e60] at c; omega
          rw [if_pos (Or.inr ⟨q, c⟩)]
          repeat (refine R_s kC9 rfl rfl ?_)
          exact R_ri kC9 rfl ⟨(Sf, Zf, If), hT, rfl, same⟩
  · rw [if_neg (by rw [hc]; decide)]
    repeat (refine R_s kC9 rfl rfl ?_)
    exact R_ri kC9 rfl ⟨(Sf, Zf, If), hT, rfl, same⟩
theorem sp_MO_lies (d : Nat) {o : Nat} (ho : o ≤ 4) (v : Int64) : Cl d 244 [.int (nI o), .long v] h (some (.long (liesF (nI o) v))) h := by
  have kC9 := co_MO_lies
  refine Cl_of kC9 rfl rfl ?_
  unfold liesF
  have : o = 0 ∨ o = 1 ∨ o = 2 ∨ o = 3 ∨ o = 4 := by omega
  rcases this with rfl | rfl | rfl | rfl | rfl
  · repeat (refine R_s kC9 rfl rfl ?_)
    refine R_sw kC9 rfl (t := 2) rfl ?_
    repeat (refine R_s kC9 rfl rfl ?_)
    exact R_rl kC9 rfl ⟨rfl, rfl⟩
  · repeat (refine R_s kC9 rfl rfl ?_)
    refine R_sw kC9 rfl (t := 7) rfl ?_
    repeat (refine R_s kC9 rfl rfl ?_)
    exact R_rl kC9 rfl ⟨rfl, rfl⟩
  · repeat (refine R_s kC9 rfl rfl ?_)
    refine R_sw kC9 rfl (t := 12) rfl ?_
    repeat (refine R_s kC9 rfl rfl ?_)
    exact R_rl kC9 rfl ⟨rfl, rfl⟩
  · repeat (refine R_s kC9 rfl rfl ?_)
    refine R_sw kC9 rfl (t := 16) rfl ?_
    repeat (refine R_s kC9 rfl rfl ?_)
    exact R_rl kC9 rfl ⟨rfl, rfl⟩
  · rw [if_neg (by decide), if_neg (by decide), if_neg (by decide), if_neg (by decide)]
    repeat (refine R_s kC9 rfl rfl ?_)
    refine R_sw kC9 rfl (t := 18) rfl ?_
    repeat (refine R_s kC9 rfl rfl ?_)
    refine Zr_ne kC9 rfl (fun q => ?_) (fun q => ?_)
    · rw [lg_eq0] at q
      rw [if_neg q]
      repeat (refine R_s kC9 rfl rfl ?_)
      exact R_rl kC9 rfl ⟨rfl, rfl⟩
    · rw [lg_eq0] at q
      rw [if_pos q]
      repeat (refine R_s kC9 rfl rfl ?_)
      refine R_g kC9 rfl ?_
      exact R_rl kC9 rfl ⟨rfl, rfl⟩
theorem TPM.put (hT : TPM T Sf Zf If) (hok : TPok T) {t i : Nat} (ht : t < 6) (hi : i < (T t).2.length) (x : Int64) : TPM (updT T t ((T t).1, (T t).2.set i x)) Sf Zf (vp_updL If (60 * t + i) x) := by
  intro q hq
  by_cases e : q = t
  · subst e
    rw [updT_s]
    refine ⟨(hT q hq).1, by rw [List.length_set]; exact (hT q hq).2.1, fun j y hy => ?_⟩
    dsimp only at hy
    by_cases e2 : j = i
    · subst e2
      rw [List.getElem?_set_self hi] at hy
      cases hy
      rw [updL_s]
    · rw [List.getElem?_set_ne (Ne.symm e2)] at hy
      rw [updL_n (by omega)]
      exact (hT q hq).2.2 j y hy
  · rw [updT_n _ _ e]
    refine ⟨(hT q hq).1, (hT q hq).2.1, fun j y hy => ?_⟩
    have hlt := (List.getElem?_eq_some_iff.mp hy).1
    have h60 := (hok q hq).1
    have h61 := (hok t ht).1
    rw [updL_n (by omega)]
    exact (hT q hq).2.2 j y hy
theorem sp_MO_item (d : Nat) (ho : h.2 76 = mob k fed pl le fi co) (hs : h.2 92 = ints 6 Sf) (hz : h.2 93 = ints 6 Zf) (hi : h.2 94 = longs 360 If) (hT : TPM T Sf Zf If) (hok : TPok T) (t i : Int32) (v : Int64) : ∃ If' : Nat → Int64, TPM (specItem T t i v).2 Sf Zf If' ∧ Cl (d + 2) 245 [.ref 76, .int t, .int i, .long v] h (some (.int (specItem T t i v).1)) (upH h 94 (longs 360 If')) := by
  have kC9 := co_MO_item
  refine Cl_ex (f := fun _ => some (.int (specItem T t i v).1)) (g := fun If' => upH h 94 (longs 360 If')) kC9 rfl rfl ?_
  unfold specItem
  repeat (refine R_s kC9 rfl rfl ?_)
  refine R_cs kC9 rfl rfl rfl rfl (sp_MO_isTape d t) ?_
  refine ZB_ne kC9 rfl (fun hc => ?_) (fun hc => ?_)
  · rw [if_pos hc]
    obtain ⟨t, ht, rfl⟩ := tpI_of hc
    rw [nI_clamp (by omega)]
    obtain ⟨a1, a2, a3⟩ := hT t ht
    obtain ⟨b1, b2⟩ := hok t ht
    repeat (refine R_s kC9 rfl rfl ?_)
    refine R_get kC9 rfl (ho) rfl ?_
    repeat (refine R_s kC9 rfl rfl ?_)
    refine R_ild kC9 rfl (hs) (rfl) (ht) (by decide) ?_
    rw [a1]
    repeat (refine R_s kC9 rfl rfl ?_)
    refine Rr_ne kC9 rfl (fun q => ?_) (fun q => ?_)
    · rw [if_neg q]
      obtain ⟨o, o4, eo⟩ : ∃ o, o ≤ 4 ∧ (T t).1 = nI o := b2.elim (fun z => absurd z.1 q) id
      repeat (refine R_s kC9 rfl rfl ?_)
      refine R_cv kC9 rfl rfl rfl rfl (ho) (by decide) (sp_MO_isItem d ho hz ht a2 b1 i) ?_
      refine ZB_ne kC9 rfl (fun hc => ?_) (fun hc => ?_)
      · rw [if_pos hc]
        obtain ⟨i, i1, i2, rfl⟩ := itI_of hc
        rw [nI_clamp (by omega)]
        repeat (refine R_s kC9 rfl rfl ?_)
        refine R_get kC9 rfl (ho) rfl ?_
        repeat (refine R_s kC9 rfl rfl ?_)
        refine R_get kC9 rfl (ho) rfl ?_
        repeat (refine R_s kC9 rfl rfl ?_)
        refine R_ild kC9 rfl (hs) (rfl) (ht) (by decide) ?_
        rw [a1, eo]
        repeat (refine R_s kC9 rfl rfl ?_)
        refine R_cs kC9 rfl rfl rfl rfl (sp_MO_lies (d + 1) o4 v) ?_
        refine R_lst kC9 rfl hi (by decide) (k := 60 * t + i) (show nI 60 * nI t + nI i = _ by rw [pk_mul, nI_add]) (by omega) (by decide) ?_
        repeat (refine R_s kC9 rfl rfl ?_)
        refine R_ri kC9 rfl ⟨_, ?_, rfl, rfl⟩
        have := hT.put hok ht i1 (liesF (nI o) v)
        rw [eo] at this
        exact this
      · rw [if_neg (by rw [hc]; decide)]
        repeat (refine R_s kC9 rfl rfl ?_)
        exact R_ri kC9 rfl ⟨If, hT, rfl, (upH_self hi).symm⟩
    · rw [if_pos q]
      repeat (refine R_s kC9 rfl rfl ?_)
      exact R_ri kC9 rfl ⟨If, hT, rfl, (upH_self hi).symm⟩
  · rw [if_neg (by rw [hc]; decide)]
    repeat (refine R_s kC9 rfl rfl ?_)
    exact R_ri kC9 rfl ⟨If, hT, rfl, (upH_self hi).symm⟩
theorem sp_MO_peek (d : Nat) (ho : h.2 76 = mob k fed pl le fi co) (hz : h.2 93 = ints 6 Zf) (hi : h.2 94 = longs 360 If) (hT : TPM T Sf Zf If) (hok : TPok T) (t i : Int32) : Cl (d + 2) 246 [.ref 76, .int t, .int i] h (some (.long (peekR T t i))) h := by
  have kC9 := co_MO_peek
  refine Cl_of kC9 rfl rfl ?_
  unfold peekR
  repeat (refine R_s kC9 rfl rfl ?_)
  refine R_cs kC9 rfl rfl rfl rfl (sp_MO_isTape d t) ?_
  refine ZB_eq kC9 rfl (fun hc => ?_) (fun hc => ?_)
  · rw [if_neg (fun q => by rw [hc] at q; cases q.1)]
    repeat (refine R_s kC9 rfl rfl ?_)
    exact R_rl kC9 rfl ⟨rfl, rfl⟩
  · have h1 := hc
    obtain ⟨t, ht, rfl⟩ := tpI_of hc
    rw [nI_clamp (by omega)]
    obtain ⟨a1, a2, a3⟩ := hT t ht
    obtain ⟨b1, b2⟩ := hok t ht
    repeat (refine R_s kC9 rfl rfl ?_)
    refine R_cv kC9 rfl rfl rfl rfl (ho) (by decide) (sp_MO_isItem d ho hz ht a2 b1 i) ?_
    refine ZB_eq kC9 rfl (fun hc => ?_) (fun hc => ?_)
    · rw [if_neg (fun q => by rw [hc] at q; cases q.2)]
      repeat (refine R_s kC9 rfl rfl ?_)
      exact R_rl kC9 rfl ⟨rfl, rfl⟩
    · rw [if_pos ⟨h1, hc⟩]
      obtain ⟨i, i1, i2, rfl⟩ := itI_of hc
      rw [nI_clamp (by omega)]
      repeat (refine R_s kC9 rfl rfl ?_)
      refine R_get kC9 rfl (ho) rfl ?_
      repeat (refine R_s kC9 rfl rfl ?_)
      refine R_lld kC9 rfl hi (by decide) (k := 60 * t + i) (show nI 60 * nI t + nI i = _ by rw [pk_mul, nI_add]) (by omega) (by decide) ?_
      rw [a3 i _ (List.getElem?_eq_getElem i1), List.getD_eq_getElem?_getD, List.getElem?_eq_getElem i1]
      refine R_g kC9 rfl ?_
      exact R_rl kC9 rfl ⟨rfl, rfl⟩
end
