/-! THE REFERENCE, 11: clauses -/
def dgV (tx : List Nat) (q : Nat) : Nat := tx.getD q 0 - 48
/-- of the clause at p: how many digits; is it whole -/
def clG (tx : List Nat) (p : Nat) : Nat := if mostF (hereF tx p) = 0 then 0 else digN tx (p + 1) (mostF (hereF tx p))
def clE (tx : List Nat) (p : Nat) : Nat := if mostF (hereF tx p) = 0 then p else p + 1 + clG tx p
def clOk (tx : List Nat) (p : Nat) : Bool := !decide (mostF (hereF tx p) = 0) && (decide (0 < clG tx p) && (!decide (hereF tx p = nI 108) || decide (clG tx p = 2)))
theorem hereF_dg {tx : List Nat} {q : Nat} (hx : ∀ x ∈ tx, x < 128) (h : isDg (hereF tx q) = true) : q < tx.length ∧ hereF tx q - nI 48 = nI (dgV tx q) ∧ dgV tx q ≤ 9 := by
  unfold isDg hereF at h
  cases hq : tx[q]? with
  | none =>
    rw [hq] at h
    exact absurd h (by decide)
  | some x =>
    rw [hq] at h
    dsimp only at h
    have hx128 := hx x (List.mem_of_getElem? hq)
    rw [nI_toInt (by omega), decide_eq_true_eq] at h
    have e : dgV tx q = x - 48 := by unfold dgV; rw [List.getD_eq_getElem?_getD, hq]; rfl
    refine ⟨(List.getElem?_eq_some_iff.mp hq).1, ?_, by rw [e]; omega⟩
    rw [e]
    show (match tx[q]? with | some x => nI x | none => -1) - nI 48 = _
    rw [hq]
    exact pk_sub (by omega)
theorem hereF_most {tx : List Nat} {p : Nat} (h : mostF (hereF tx p) ≠ 0) : p < tx.length := by
  rcases Nat.lt_or_ge p tx.length with q | q
  · exact q
  · exfalso
    apply h
    unfold hereF
    rw [List.getElem?_eq_none q]
    decide
theorem digN_end {tx : List Nat} (hx : ∀ x ∈ tx, x < 128) : ∀ (m q : Nat), q ≤ tx.length → q + digN tx q m ≤ tx.length
  | 0, q, h => h
  | m + 1, q, h => by
    rw [digN_succ]
    split
    · rename_i hd
      have h1 := (hereF_dg hx hd).1
      have := digN_end hx m (q + 1) (by omega)
      omega
    · exact h
section
variable {h : AH} {k fed pl le fi co : Int32} {G T : Nat → Int32} {U : US} {tx : List Nat}
theorem lp_reads (d : Nat) (Q : Option Value → AH → Prop) (hT : h.2 81 = ints 100 T) (hx : TxR tx T) {p : Nat} (c : Int32) (hm : p < tx.length) (kk : ∀ Fg', (∀ i, i < digN tx (p + 1) (mostF c) → Fg' i = nI (dgV tx (p + 1 + i))) → R (d + 1) 181 54 [some (.ref 76)] [] (upH (upH h 82 (ints 5 Fg')) 76 (mob k (nI tx.length) (nI (p + 1 + digN tx (p + 1) (mostF c))) c (nI (digN tx (p + 1) (mostF c))) co)) Q) : ∀ (m f : Nat) (Fg' : Nat → Int32), f + m = mostF c → digN tx (p + 1) (mostF c) = f + digN tx (p + 1 + f) m → (∀ i, i < f → Fg' i = nI (dgV tx (p + 1 + i))) → R (d + 1) 181 19 [some (.ref 76)] [] (upH (upH h 82 (ints 5 Fg')) 76 (mob k (nI tx.length) (nI (p + 1 + f)) c (nI f) co)) Q := by
  have kC9 := co_MO_readsClause
  have hm5 := mostF_le c
  have hl := hx.1
  intro m
  induction m with
  | zero =>
    intro f Fg' hf he hp
    have hfe : f = digN tx (p + 1) (mostF c) := by rw [he]; rfl
    repeat (refine R_s kC9 rfl rfl ?_)
    refine R_get kC9 rfl (h := upH (upH h 82 (ints 5 Fg')) 76 (mob k (nI tx.length) (nI (p + 1 + f)) c (nI f) co)) rfl rfl ?_
    repeat (refine R_s kC9 rfl rfl ?_)
    refine R_get kC9 rfl (h := upH (upH h 82 (ints 5 Fg')) 76 (mob k (nI tx.length) (nI (p + 1 + f)) c (nI f) co)) rfl rfl ?_
    refine R_cs kC9 rfl rfl rfl rfl (sp_MO_most d _) ?_
    refine R_ge kC9 rfl (rfl) (rfl) (by omega) (by omega) (fun hc => ?_) (fun hc => ?_)
    · rw [hfe]
      exact kk Fg' (fun i hi => hp i (by omega))
    · omega
  | succ m ih =>
    intro f Fg' hf he hp
    repeat (refine R_s kC9 rfl rfl ?_)
    refine R_get kC9 rfl (h := upH (upH h 82 (ints 5 Fg')) 76 (mob k (nI tx.length) (nI (p + 1 + f)) c (nI f) co)) rfl rfl ?_
    repeat (refine R_s kC9 rfl rfl ?_)
    refine R_get kC9 rfl (h := upH (upH h 82 (ints 5 Fg')) 76 (mob k (nI tx.length) (nI (p + 1 + f)) c (nI f) co)) rfl rfl ?_
    refine R_cs kC9 rfl rfl rfl rfl (sp_MO_most d _) ?_
    have hT' : (upH (upH h 82 (ints 5 Fg')) 76 (mob k (nI tx.length) (nI (p + 1 + f)) c (nI f) co)).2 81 = ints 100 T := hT
    have hw : p + 1 + digN tx (p + 1) (mostF c) ≤ tx.length := digN_end hx.2.1 _ _ (by omega)
    refine R_ge kC9 rfl (rfl) (rfl) (by omega) (by omega) (fun hc => ?_) (fun hc => ?_)
    · omega
    · repeat (refine R_s kC9 rfl rfl ?_)
      refine R_cv kC9 rfl rfl rfl rfl (h := upH (upH h 82 (ints 5 Fg')) 76 (mob k (nI tx.length) (nI (p + 1 + f)) c (nI f) co)) rfl (by decide) (sp_MO_here d rfl hT' hx (by omega)) ?_
      repeat (refine R_s kC9 rfl rfl ?_)
      refine R_cs kC9 rfl rfl rfl rfl (sp_MO_isIn d _ _ _ _) ?_
      rw [Int32.toInt_toInt64]
      rw [digN_succ] at he
      refine ZB_eq kC9 rfl (fun hd => ?_) (fun hd => ?_)
      · have hd2 : isDg (hereF tx (p + 1 + f)) = false := hd
        rw [if_neg (by rw [hd2]; decide)] at he
        have hfe : f = digN tx (p + 1) (mostF c) := by omega
        rw [hfe]
        exact kk Fg' (fun i hi => hp i (by omega))
      · have hd2 : isDg (hereF tx (p + 1 + f)) = true := hd
        rw [if_pos hd2] at he
        obtain ⟨q1, q2, q3⟩ := hereF_dg hx.2.1 hd2
        repeat (refine R_s kC9 rfl rfl ?_)
        refine R_get kC9 rfl (h := upH (upH h 82 (ints 5 Fg')) 76 (mob k (nI tx.length) (nI (p + 1 + f)) c (nI f) co)) rfl rfl ?_
        repeat (refine R_s kC9 rfl rfl ?_)
        refine R_get kC9 rfl (h := upH (upH h 82 (ints 5 Fg')) 76 (mob k (nI tx.length) (nI (p + 1 + f)) c (nI f) co)) rfl rfl ?_
        repeat (refine R_s kC9 rfl rfl ?_)
        refine R_cv kC9 rfl rfl rfl rfl (h := upH (upH h 82 (ints 5 Fg')) 76 (mob k (nI tx.length) (nI (p + 1 + f)) c (nI f) co)) rfl (by decide) (sp_MO_here d rfl hT' hx (by omega)) ?_
        repeat (refine R_s kC9 rfl rfl ?_)
        rw [q2]
        refine R_ist kC9 rfl (h := upH (upH h 82 (ints 5 Fg')) 76 (mob k (nI tx.length) (nI (p + 1 + f)) c (nI f) co)) rfl (by decide) (k := f) rfl (by omega) (by decide) ?_
        rw [upH_comm _ _ _ (by decide : (76 : Nat) ≠ 82), upH_upH]
        repeat (refine R_s kC9 rfl rfl ?_)
        refine R_get kC9 rfl (h := upH (upH h 82 (ints 5 (upd Fg' f (nI (dgV tx (p + 1 + f)))))) 76 (mob k (nI tx.length) (nI (p + 1 + f)) c (nI f) co)) rfl rfl ?_
        repeat (refine R_s kC9 rfl rfl ?_)
        refine R_put kC9 rfl (h := upH (upH h 82 (ints 5 (upd Fg' f (nI (dgV tx (p + 1 + f)))))) 76 (mob k (nI tx.length) (nI (p + 1 + f)) c (nI f) co)) rfl (by decide) (Nat.le_of_ble_eq_true rfl) rfl ?_
        rw [upH_upH, nI_add]
        refine (show R (d + 1) 181 47 _ [] (upH (upH h 82 (ints 5 (upd Fg' f (nI (dgV tx (p + 1 + f)))))) 76 (mob k (nI tx.length) (nI (p + 1 + f)) c (nI (f + 1)) co)) _ from ?_)
        repeat (refine R_s kC9 rfl rfl ?_)
        refine R_get kC9 rfl (h := upH (upH h 82 (ints 5 (upd Fg' f (nI (dgV tx (p + 1 + f)))))) 76 (mob k (nI tx.length) (nI (p + 1 + f)) c (nI (f + 1)) co)) rfl rfl ?_
        repeat (refine R_s kC9 rfl rfl ?_)
        refine R_put kC9 rfl (h := upH (upH h 82 (ints 5 (upd Fg' f (nI (dgV tx (p + 1 + f)))))) 76 (mob k (nI tx.length) (nI (p + 1 + f)) c (nI (f + 1)) co)) rfl (by decide) (Nat.le_of_ble_eq_true rfl) rfl ?_
        rw [upH_upH, nI_add]
        refine R_g kC9 rfl ?_
        refine (show R (d + 1) 181 19 [some (.ref 76)] [] (upH (upH h 82 (ints 5 (upd Fg' f (nI (dgV tx (p + 1 + f)))))) 76 (mob k (nI tx.length) (nI (p + 1 + (f + 1))) c (nI (f + 1)) co)) _ from ?_)
        refine ih (f + 1) _ (by omega) (by rw [he, show p + 1 + (f + 1) = p + 1 + f + 1 by omega]; omega) (fun i hi => ?_)
        by_cases e : i = f
        · subst e; exact pk_us
        · rw [pk_un e]; exact hp i (by omega)
theorem sp_MO_readsClause (d : Nat) {p : Nat} {Fg : Nat → Int32} (ho : h.2 76 = mob k (nI tx.length) (nI p) le fi co) (hT : h.2 81 = ints 100 T) (hFg : h.2 82 = ints 5 Fg) (hx : TxR tx T) (hp : p < 1000) : ∃ Fg' : Nat → Int32, (∀ i, i < clG tx p → Fg' i = nI (dgV tx (p + 1 + i))) ∧ Cl (d + 1) 181 [.ref 76] h (some (.int (b2i (clOk tx p)))) (upH (upH h 82 (ints 5 Fg')) 76 (mob k (nI tx.length) (nI (clE tx p)) (hereF tx p) (nI (clG tx p)) co)) := by
  have kC9 := co_MO_readsClause
  have hm5 := mostF_le (hereF tx p)
  refine Cl_ex (f := fun _ => some (.int (b2i (clOk tx p)))) (g := fun Fg' => upH (upH h 82 (ints 5 Fg')) 76 (mob k (nI tx.length) (nI (clE tx p)) (hereF tx p) (nI (clG tx p)) co)) kC9 rfl rfl ?_
  repeat (refine R_s kC9 rfl rfl ?_)
  refine R_cv kC9 rfl rfl rfl rfl (ho) (by decide) (sp_MO_here d ho hT hx hp) ?_
  refine R_put kC9 rfl (ho) (by decide) (Nat.le_of_ble_eq_true rfl) rfl ?_
  refine (show R (d + 1) 181 4 _ [] (upH h 76 (mob k (nI tx.length) (nI p) (hereF tx p) fi co)) _ from ?_)
  repeat (refine R_s kC9 rfl rfl ?_)
  refine R_put kC9 rfl (h := upH h 76 (mob k (nI tx.length) (nI p) (hereF tx p) fi co)) rfl (by decide) (Nat.le_of_ble_eq_true rfl) rfl ?_
  rw [upH_upH]
  refine (show R (d + 1) 181 7 _ [] (upH h 76 (mob k (nI tx.length) (nI p) (hereF tx p) (nI 0) co)) _ from ?_)
  repeat (refine R_s kC9 rfl rfl ?_)
  refine R_get kC9 rfl (h := upH h 76 (mob k (nI tx.length) (nI p) (hereF tx p) (nI 0) co)) rfl rfl ?_
  refine R_cs kC9 rfl rfl rfl rfl (sp_MO_most d _) ?_
  refine Z_ne kC9 rfl rfl (by omega) (fun hm => ?_) (fun hm => ?_)
  · have hpl := hereF_most hm
    have hxl := hx.1
    repeat (refine R_s kC9 rfl rfl ?_)
    refine R_get kC9 rfl (h := upH h 76 (mob k (nI tx.length) (nI p) (hereF tx p) (nI 0) co)) rfl rfl ?_
    repeat (refine R_s kC9 rfl rfl ?_)
    refine R_put kC9 rfl (h := upH h 76 (mob k (nI tx.length) (nI p) (hereF tx p) (nI 0) co)) rfl (by decide) (Nat.le_of_ble_eq_true rfl) rfl ?_
    rw [upH_upH, nI_add]
    refine (show R (d + 1) 181 19 [some (.ref 76)] [] (upH h 76 (mob k (nI tx.length) (nI (p + 1)) (hereF tx p) (nI 0) co)) _ from ?_)
    have hh : upH h 76 (mob k (nI tx.length) (nI (p + 1)) (hereF tx p) (nI 0) co) = upH (upH h 82 (ints 5 Fg)) 76 (mob k (nI tx.length) (nI (p + 1 + 0)) (hereF tx p) (nI 0) co) := by rw [upH_self hFg]
    rw [hh]
    have eG : clG tx p = digN tx (p + 1) (mostF (hereF tx p)) := by unfold clG; rw [if_neg hm]
    have eE : clE tx p = p + 1 + clG tx p := by unfold clE; rw [if_neg hm]
    have hg5 := digN_le tx (mostF (hereF tx p)) (p + 1)
    refine lp_reads d _ hT hx (hereF tx p) hpl (fun Fg' hF => ?_) (mostF (hereF tx p)) 0 Fg (by omega) (by rw [Nat.zero_add]) (fun i hi => absurd hi (by omega))
    rw [← eG, ← eE]
    rw [← eG] at hF
    repeat (refine R_s kC9 rfl rfl ?_)
    refine R_get kC9 rfl (h := upH (upH h 82 (ints 5 Fg')) 76 (mob k (nI tx.length) (nI (clE tx p)) (hereF tx p) (nI (clG tx p)) co)) rfl rfl ?_
    refine Z_le kC9 rfl rfl (by omega) (fun h0 => ?_) (fun h0 => ?_)
    · repeat (refine R_s kC9 rfl rfl ?_)
      refine R_rz kC9 rfl (Or.inl rfl) ⟨Fg', hF, ri_eq (b2i_f ?_), rfl⟩
      unfold clOk
      rw [decide_eq_false hm, decide_eq_false (by omega : ¬ 0 < clG tx p)]
      rfl
    · repeat (refine R_s kC9 rfl rfl ?_)
      refine R_get kC9 rfl (h := upH (upH h 82 (ints 5 Fg')) 76 (mob k (nI tx.length) (nI (clE tx p)) (hereF tx p) (nI (clG tx p)) co)) rfl rfl ?_
      repeat (refine R_s kC9 rfl rfl ?_)
      refine Rr_ne kC9 rfl (fun h1 => ?_) (fun h1 => ?_)
      · repeat (refine R_s kC9 rfl rfl ?_)
        refine R_g kC9 rfl ?_
        refine R_rz kC9 rfl (Or.inr rfl) ⟨Fg', hF, ri_eq (b2i_t ?_), rfl⟩
        unfold clOk
        rw [decide_eq_false hm, decide_eq_true h0, decide_eq_false h1]
        rfl
      · repeat (refine R_s kC9 rfl rfl ?_)
        refine R_get kC9 rfl (h := upH (upH h 82 (ints 5 Fg')) 76 (mob k (nI tx.length) (nI (clE tx p)) (hereF tx p) (nI (clG tx p)) co)) rfl rfl ?_
        repeat (refine R_s kC9 rfl rfl ?_)
        refine R_ne kC9 rfl rfl rfl (by omega) (by omega) (fun h2 => ?_) (fun h2 => ?_)
        · repeat (refine R_s kC9 rfl rfl ?_)
          refine R_rz kC9 rfl (Or.inl rfl) ⟨Fg', hF, ri_eq (b2i_f ?_), rfl⟩
          unfold clOk
          rw [decide_eq_true h1, decide_eq_false h2, decide_eq_true h0, decide_eq_false hm]
          rfl
        · repeat (refine R_s kC9 rfl rfl ?_)
          refine R_g kC9 rfl ?_
          refine R_rz kC9 rfl (Or.inr rfl) ⟨Fg', hF, ri_eq (b2i_t ?_), rfl⟩
          unfold clOk
          rw [decide_eq_true h2, decide_eq_true h0, decide_eq_false hm, Bool.or_true]
          rfl
  · have hm0 : mostF (hereF tx p) = 0 := by omega
    have eG : clG tx p = 0 := by unfold clG; rw [if_pos hm0]
    have eE : clE tx p = p := by unfold clE; rw [if_pos hm0]
    repeat (refine R_s kC9 rfl rfl ?_)
    refine R_rz kC9 rfl (Or.inl rfl) ⟨Fg, fun i hi => by omega, ri_eq (b2i_f ?_), ?_⟩
    · unfold clOk
      rw [decide_eq_true hm0]
      rfl
    · rw [upH_self hFg, eG, eE]
end
