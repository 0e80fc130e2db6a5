/-! THE REFERENCE, 19: shift, judge, common, happens -/
theorem cpyL_len (src dst : List Int64) (i j n : Nat) : (cpyL src dst i j n).length = dst.length := by unfold cpyL; rw [List.length_map, List.length_range]
theorem cpyL_at {src dst : List Int64} {i j n q : Nat} {x : Int64} (h : (cpyL src dst i j n)[q]? = some x) : q < dst.length ∧ x = if j ≤ q ∧ q < j + n then src.getD (i + (q - j)) 0 else dst.getD q 0 := by
  have hl := (List.getElem?_eq_some_iff.mp h).1
  rw [cpyL_len] at hl
  unfold cpyL at h
  rw [List.getElem?_map, List.getElem?_range hl] at h
  exact ⟨hl, (Option.some.inj h).symm⟩
section
variable {h : AH} {k fed pl le fi co : Int32} {G Sf Zf : Nat → Int32} {If : Nat → Int64} {T : TPS}
/-- the items when e of n are copied -/
def shI (If : Nat → Int64) (a b n : Nat) (up : Bool) (e : Nat) (I : Nat → Int64) : Prop := ∀ q, I q = if b ≤ q ∧ q < b + n ∧ (up = true → q - b < e) ∧ (up = false → n - e ≤ q - b) then If (a + (q - b)) else If q
theorem lp_shift (d : Nat) (ho : h.2 76 = mob k fed pl le fi co) {t i o j n : Nat} (ht : t < 6) (hoo : o < 6) (hi : i + n ≤ 60) (hj : j + n ≤ 60) : ∀ (m e : Nat) (I : Nat → Int64) (w7 : Option Value), e + m = n → shI If (60 * t + i) (60 * o + j) n (decide (j < i)) e I → R d 247 59 [some (.ref 76), some (.int (nI t)), some (.int (nI i)), some (.int (nI o)), some (.int (nI j)), some (.int (nI n)), some (.int (nI e)), w7] [] (upH h 94 (longs 360 I)) (fun r2 h2 => ∃ I', shI If (60 * t + i) (60 * o + j) n (decide (j < i)) n I' ∧ r2 = some (.int (nI n)) ∧ h2 = upH h 94 (longs 360 I')) := by
  have kC9 := co_MO_shift
  intro m
  induction m with
  | zero =>
    intro e I w7 he hI
    repeat (refine R_s kC9 rfl rfl ?_)
    refine R_ge kC9 rfl (rfl) (rfl) (by omega) (by omega) (fun hc => ?_) (fun hc => ?_)
    · repeat (refine R_s kC9 rfl rfl ?_)
      have : e = n := by omega
      subst this
      exact R_ri kC9 rfl ⟨I, hI, rfl, rfl⟩
    · omega
  | succ m ih =>
    intro e I w7 he hI
    have body : ∀ kk : Nat, kk = (if j < i then e else n - 1 - e) → R d 247 72 [some (.ref 76), some (.int (nI t)), some (.int (nI i)), some (.int (nI o)), some (.int (nI j)), some (.int (nI n)), some (.int (nI e)), w7] [.int (nI kk)] (upH h 94 (longs 360 I)) (fun r2 h2 => ∃ I', shI If (60 * t + i) (60 * o + j) n (decide (j < i)) n I' ∧ r2 = some (.int (nI n)) ∧ h2 = upH h 94 (longs 360 I')) := by
      intro kk hkk
      have hkn : kk < n := by rw [hkk]; split <;> omega
      repeat (refine R_s kC9 rfl rfl ?_)
      refine R_get kC9 rfl (show (upH h 94 (longs 360 I)).2 76 = mob k fed pl le fi co from ho) rfl ?_
      repeat (refine R_s kC9 rfl rfl ?_)
      refine R_get kC9 rfl (show (upH h 94 (longs 360 I)).2 76 = mob k fed pl le fi co from ho) rfl ?_
      repeat (refine R_s kC9 rfl rfl ?_)
      refine R_lld kC9 rfl (h := upH h 94 (longs 360 I)) rfl (by decide) (k := 60 * t + i + kk) (show nI 60 * nI t + nI i + nI kk = _ by rw [pk_mul, nI_add, nI_add]) (by omega) (by decide) ?_
      refine R_lst kC9 rfl (h := upH h 94 (longs 360 I)) rfl (by decide) (k := 60 * o + j + kk) (show nI 60 * nI o + nI j + nI kk = _ by rw [pk_mul, nI_add, nI_add]) (by omega) (by decide) ?_
      rw [upH_upH]
      repeat (refine R_s kC9 rfl rfl ?_)
      refine R_g kC9 rfl ?_
      refine (show R d 247 59 [some (.ref 76), some (.int (nI t)), some (.int (nI i)), some (.int (nI o)), some (.int (nI j)), some (.int (nI n)), some (.int (nI e + nI 1)), some (.int (nI kk))] [] (upH h 94 (longs 360 (vp_updL I (60 * o + j + kk) (I (60 * t + i + kk))))) _ from ?_)
      rw [nI_add]
      refine ih (e + 1) _ _ (by omega) (fun q => ?_)
      have src : I (60 * t + i + kk) = If (60 * t + i + kk) := by
        rw [hI, if_neg]
        rintro ⟨c1, c2, c3, c4⟩
        by_cases hji : j < i
        · rw [if_pos hji] at hkk
          have := c3 (decide_eq_true hji)
          omega
        · rw [if_neg hji] at hkk
          have := c4 (decide_eq_false hji)
          omega
      by_cases e1 : q = 60 * o + j + kk
      · subst e1
        rw [updL_s, src, if_pos]
        · congr 1; omega
        · refine ⟨by omega, by omega, fun z => ?_, fun z => ?_⟩
          · rw [if_pos (of_decide_eq_true z)] at hkk
            omega
          · rw [if_neg (of_decide_eq_false z)] at hkk
            omega
      · rw [updL_n e1, hI]
        by_cases c : 60 * o + j ≤ q ∧ q < 60 * o + j + n ∧ (decide (j < i) = true → q - (60 * o + j) < e) ∧ (decide (j < i) = false → n - e ≤ q - (60 * o + j))
        · rw [if_pos c, if_pos ⟨c.1, c.2.1, fun z => by have := c.2.2.1 z; omega, fun z => by have := c.2.2.2 z; omega⟩]
        · rw [if_neg c, if_neg (fun y => c ⟨y.1, y.2.1, fun z => by have := y.2.2.1 z; rw [if_pos (of_decide_eq_true z)] at hkk; omega, fun z => by have := y.2.2.2 z; rw [if_neg (of_decide_eq_false z)] at hkk; omega⟩)]
    repeat (refine R_s kC9 rfl rfl ?_)
    refine R_ge kC9 rfl (rfl) (rfl) (by omega) (by omega) (fun hc => ?_) (fun hc => ?_)
    · omega
    · repeat (refine R_s kC9 rfl rfl ?_)
      refine R_le kC9 rfl rfl rfl (by omega) (by omega) (fun hc2 => ?_) (fun hc2 => ?_)
      · iterate 4 (refine R_s kC9 rfl rfl ?_)
        refine (show R d 247 71 _ [.int (nI e), .int (nI n - nI 1)] _ _ from ?_)
        iterate 1 (refine R_s kC9 rfl rfl ?_)
        refine (show R d 247 72 _ [.int (nI n - nI 1 - nI e)] _ _ from ?_)
        rw [pk_sub (show 1 ≤ n by omega), pk_sub (show e ≤ n - 1 by omega)]
        exact body (n - 1 - e) (by rw [if_neg (by omega)])
      · iterate 1 (refine R_s kC9 rfl rfl ?_)
        refine R_g kC9 rfl ?_
        exact body e (by rw [if_pos hc2])
theorem sp_MO_shift (d : Nat) (ho : h.2 76 = mob k fed pl le fi co) (hs : h.2 92 = ints 6 Sf) (hz : h.2 93 = ints 6 Zf) (hi : h.2 94 = longs 360 If) (hT : TPM T Sf Zf If) (hok : TPok T) (t i o j n : Int32) : ∃ If' : Nat → Int64, TPM (specShift T t i o j n).2 Sf Zf If' ∧ Cl (d + 2) 247 [.ref 76, .int t, .int i, .int o, .int j, .int n] h (some (.int (specShift T t i o j n).1)) (upH h 94 (longs 360 If')) := by
  have kC9 := co_MO_shift
  refine Cl_ex (f := fun _ => some (.int (specShift T t i o j n).1)) (g := fun If' => upH h 94 (longs 360 If')) kC9 rfl rfl ?_
  unfold specShift
  repeat (refine R_s kC9 rfl rfl ?_)
  refine R_cs kC9 rfl rfl rfl rfl (sp_MO_isTape d t) ?_
  refine ZB_eq kC9 rfl (fun hc => ?_) (fun hc => ?_)
  · rw [if_neg (by rw [hc]; exact fun z => by cases z)]
    repeat (refine R_s kC9 rfl rfl ?_)
    exact R_ri kC9 rfl ⟨If, hT, rfl, (upH_self hi).symm⟩
  · have h1 := hc
    repeat (refine R_s kC9 rfl rfl ?_)
    refine R_cs kC9 rfl rfl rfl rfl (sp_MO_isTape d o) ?_
    refine ZB_ne kC9 rfl (fun hc => ?_) (fun hc => ?_)
    · rw [if_pos (by rw [h1, hc]; rfl)]
      have h2 := hc
      obtain ⟨t, ht, rfl⟩ := tpI_of h1
      obtain ⟨o, hoo, rfl⟩ := tpI_of h2
      rw [nI_clamp (show t < 2 ^ 31 by omega), nI_clamp (show o < 2 ^ 31 by omega)]
      obtain ⟨a1, a2, a3⟩ := hT t ht
      obtain ⟨b1, b2⟩ := hok t ht
      obtain ⟨c1, c2, c3⟩ := hT o hoo
      obtain ⟨e1, e2⟩ := hok o hoo
      repeat (refine R_s kC9 rfl rfl ?_)
      refine R_get kC9 rfl (ho) rfl ?_
      repeat (refine R_s kC9 rfl rfl ?_)
      refine R_ild kC9 rfl (hs) (rfl) (ht) (by decide) ?_
      rw [a1]
      repeat (refine R_s kC9 rfl rfl ?_)
      refine Rr_eq kC9 rfl (fun q => ?_) (fun q => ?_)
      · rw [if_pos (Or.inl q)]
        repeat (refine R_s kC9 rfl rfl ?_)
        exact R_ri kC9 rfl ⟨If, hT, rfl, (upH_self hi).symm⟩
      · repeat (refine R_s kC9 rfl rfl ?_)
        refine R_get kC9 rfl (ho) rfl ?_
        repeat (refine R_s kC9 rfl rfl ?_)
        refine R_ild kC9 rfl (hs) (rfl) (hoo) (by decide) ?_
        rw [c1]
        repeat (refine R_s kC9 rfl rfl ?_)
        refine Rr_ne kC9 rfl (fun q2 => ?_) (fun q2 => ?_)
        · rw [if_neg (fun z => z.elim q q2)]
          repeat (refine R_s kC9 rfl rfl ?_)
          refine R_get kC9 rfl (ho) rfl ?_
          repeat (refine R_s kC9 rfl rfl ?_)
          refine R_ild kC9 rfl (hs) (rfl) (ht) (by decide) ?_
          rw [a1]
          repeat (refine R_s kC9 rfl rfl ?_)
          refine R_get kC9 rfl (ho) rfl ?_
          repeat (refine R_s kC9 rfl rfl ?_)
          refine R_ild kC9 rfl (hs) (rfl) (hoo) (by decide) ?_
          rw [c1]
          refine Rr_eq kC9 rfl (fun q3 => ?_) (fun q3 => ?_)
          · rw [if_neg (fun z => z q3)]
            have e0 : (0 : Int32).toInt = 0 := by decide
            have no : shNo (T t).2.length (T o).2.length i j n → R (d + 2) 247 55 [some (.ref 76), some (.int (nI t)), some (.int i), some (.int (nI o)), some (.int j), some (.int n), none, none] [] h (fun r2 h2 => ∃ If', TPM (if pb (shNo (T t).2.length (T o).2.length i j n) = true then ((-13 : Int32), T) else (n, updT T o ((T o).1, cpyL (T t).2 (T o).2 i.toNatClampNeg j.toNatClampNeg n.toNatClampNeg))).2 Sf Zf If' ∧ r2 = some (.int (if pb (shNo (T t).2.length (T o).2.length i j n) = true then ((-13 : Int32), T) else (n, updT T o ((T o).1, cpyL (T t).2 (T o).2 i.toNatClampNeg j.toNatClampNeg n.toNatClampNeg))).1) ∧ h2 = upH h 94 (longs 360 If')) := by
              intro q4
              rw [if_pos (pb_true.mpr q4)]
              repeat (refine R_s kC9 rfl rfl ?_)
              exact R_ri kC9 rfl ⟨If, hT, rfl, (upH_self hi).symm⟩
            repeat (refine R_s kC9 rfl rfl ?_)
            refine Zr_lt kC9 rfl (fun z => no (Or.inl (by rw [Int32.lt_iff_toInt_lt, e0] at z; exact z))) (fun z1 => ?_)
            repeat (refine R_s kC9 rfl rfl ?_)
            refine Zr_lt kC9 rfl (fun z => no (Or.inr (Or.inl (by rw [Int32.lt_iff_toInt_lt, e0] at z; exact z)))) (fun z2 => ?_)
            repeat (refine R_s kC9 rfl rfl ?_)
            refine Zr_lt kC9 rfl (fun z => no (Or.inr (Or.inr (Or.inl (by rw [Int32.lt_iff_toInt_lt, e0] at z; exact z))))) (fun z3 => ?_)
            obtain ⟨n, n1, rfl⟩ := nI_of z1
            obtain ⟨i, i1, rfl⟩ := nI_of z2
            obtain ⟨j, j1, rfl⟩ := nI_of z3
            repeat (refine R_s kC9 rfl rfl ?_)
            refine R_get kC9 rfl (ho) rfl ?_
            repeat (refine R_s kC9 rfl rfl ?_)
            refine R_ild kC9 rfl (hz) (rfl) (ht) (by decide) ?_
            rw [a2]
            repeat (refine R_s kC9 rfl rfl ?_)
            refine Rr_gt kC9 rfl (fun z => no (Or.inr (Or.inr (Or.inr (Or.inl (by rw [Int32.lt_iff_toInt_lt, sub_ti (by omega) i1] at z; rw [nI_toInt i1]; exact z)))))) (fun z4 => ?_)
            rw [Int32.lt_iff_toInt_lt, sub_ti (by omega) i1, nI_toInt n1] at z4
            repeat (refine R_s kC9 rfl rfl ?_)
            refine R_get kC9 rfl (ho) rfl ?_
            repeat (refine R_s kC9 rfl rfl ?_)
            refine R_ild kC9 rfl (hz) (rfl) (hoo) (by decide) ?_
            rw [c2]
            repeat (refine R_s kC9 rfl rfl ?_)
            refine Rr_le kC9 rfl (fun z => ?_) (fun z => no (Or.inr (Or.inr (Or.inr (Or.inr (by rw [Int32.le_iff_toInt_le, sub_ti (by omega) j1] at z; rw [nI_toInt j1]; omega))))))
            rw [Int32.le_iff_toInt_le, sub_ti (by omega) j1, nI_toInt n1] at z
            rw [if_neg (by rw [pb_true]; unfold shNo; rw [nI_toInt i1, nI_toInt j1, nI_toInt n1]; omega), nI_clamp i1, nI_clamp j1, nI_clamp n1]
            iterate 2 (refine R_s kC9 rfl rfl ?_)
            refine (show R (d + 2) 247 59 [some (.ref 76), some (.int (nI t)), some (.int (nI i)), some (.int (nI o)), some (.int (nI j)), some (.int (nI n)), some (.int (nI 0)), none] [] h _ from ?_)
            have hh : h = upH h 94 (longs 360 If) := (upH_self hi).symm
            have key := lp_shift (If := If) (h := h) (d + 2) ho ht hoo (i := i) (j := j) (n := n) (by omega) (by omega) n 0 If none (by omega) (fun q => by
              rw [if_neg]
              rintro ⟨x1, x2, x3, x4⟩
              by_cases hji : j < i
              · have := x3 (decide_eq_true hji); omega
              · have := x4 (decide_eq_false hji); omega)
            rw [← hh] at key
            obtain ⟨fu, r2, h2, hrun, I', hI', er, eh⟩ := key
            refine ⟨fu, r2, h2, hrun, I', fun q hq => ?_, er, eh⟩
            dsimp only
            have hI2 : ∀ p, I' p = if 60 * o + j ≤ p ∧ p < 60 * o + j + n then If (60 * t + i + (p - (60 * o + j))) else If p := by
              intro p
              rw [hI']
              by_cases c : 60 * o + j ≤ p ∧ p < 60 * o + j + n
              · rw [if_pos c, if_pos ⟨c.1, c.2, fun _ => by omega, fun _ => by omega⟩]
              · rw [if_neg c, if_neg (fun z => c ⟨z.1, z.2.1⟩)]
            by_cases eq : q = o
            · subst eq
              rw [updT_s]
              refine ⟨c1, by rw [cpyL_len]; exact c2, fun p x hx => ?_⟩
              obtain ⟨p1, p2⟩ := cpyL_at hx
              rw [p2, hI2]
              by_cases c : j ≤ p ∧ p < j + n
              · rw [if_pos c, if_pos (by omega), show 60 * t + i + (60 * q + p - (60 * q + j)) = 60 * t + (i + (p - j)) by omega]
                have hlt : i + (p - j) < (T t).2.length := by omega
                rw [a3 _ _ (List.getElem?_eq_getElem hlt), List.getD_eq_getElem?_getD, List.getElem?_eq_getElem hlt]
                rfl
              · rw [if_neg c, if_neg (by omega), c3 _ _ (List.getElem?_eq_getElem p1), List.getD_eq_getElem?_getD, List.getElem?_eq_getElem p1]
                rfl
            · rw [updT_n _ _ eq]
              refine ⟨(hT q hq).1, (hT q hq).2.1, fun p x hx => ?_⟩
              have hlt := (List.getElem?_eq_some_iff.mp hx).1
              have h60 := (hok q hq).1
              rw [hI2, if_neg (by omega)]
              exact (hT q hq).2.2 p x hx
          · rw [if_pos q3]
            repeat (refine R_s kC9 rfl rfl ?_)
            exact R_ri kC9 rfl ⟨If, hT, rfl, (upH_self hi).symm⟩
        · rw [if_pos (Or.inr q2)]
          repeat (refine R_s kC9 rfl rfl ?_)
          exact R_ri kC9 rfl ⟨If, hT, rfl, (upH_self hi).symm⟩
    · rw [if_neg (by rw [hc, Bool.and_false]; exact fun z => by cases z)]
      repeat (refine R_s kC9 rfl rfl ?_)
      exact R_ri kC9 rfl ⟨If, hT, rfl, (upH_self hi).symm⟩
end
