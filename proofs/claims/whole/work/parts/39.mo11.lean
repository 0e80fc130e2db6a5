/-! THE REFERENCE, 10: drop, the text -/
theorem lp_drop (d : Nat) (Q : Option Value → AH → Prop) {h : AH} {k fed pl le fi co : Int32} {G : Nat → Int32} (ho : h.2 76 = mob k fed pl le fi co) {ch : List Nat} (hch : ∀ i x, ch[i]? = some x → G (59 + i) = nI x) (hl : ch.length ≤ 4) {at_ : Nat} (hat : at_ < ch.length) (v w2 : Int32) (kk : ∀ G', G' 58 = nI (ch.length - 1) → (∀ i x, (ch.eraseIdx at_)[i]? = some x → G' (59 + i) = nI x) → (∀ q, q < 58 ∨ 63 ≤ q → G' q = G q) → R d 177 39 [some (.ref 76), some (.int v), some (.int w2), some (.int (nI (ch.length - 1)))] [] (upH h 77 (ints 106 G')) Q) : ∀ (m i : Nat) (G' : Nat → Int32), i + m = ch.length - 1 → at_ ≤ i → G' 58 = nI (ch.length - 1) → (∀ j x, j < i → (ch.eraseIdx at_)[j]? = some x → G' (59 + j) = nI x) → (∀ j x, i ≤ j → ch[j]? = some x → G' (59 + j) = nI x) → (∀ q, q < 58 ∨ 63 ≤ q → G' q = G q) → R d 177 19 [some (.ref 76), some (.int v), some (.int w2), some (.int (nI i))] [] (upH h 77 (ints 106 G')) Q := by
  have kC9 := co_MO_drop
  intro m
  induction m with
  | zero =>
    intro i G' hi ha h58 h1 h2 h3
    have : i = ch.length - 1 := by omega
    subst this
    have ho' : (upH h 77 (ints 106 G')).2 76 = mob k fed pl le fi co := ho
    repeat (refine R_s kC9 rfl rfl ?_)
    refine R_get kC9 rfl (ho') rfl ?_
    repeat (refine R_s kC9 rfl rfl ?_)
    refine R_ild kC9 rfl (h := upH h 77 (ints 106 G')) rfl (k := 58) rfl (by decide) (by decide) ?_
    rw [h58]
    refine R_ge kC9 rfl (rfl) (rfl) (by omega) (by omega) (fun hc => ?_) (fun hc => ?_)
    · refine kk G' h58 (fun j x hx => h1 j x ?_ hx) h3
      have hlt := (List.getElem?_eq_some_iff.mp hx).1
      rw [List.length_eraseIdx_of_lt hat] at hlt
      exact hlt
    · omega
  | succ m ih =>
    intro i G' hi ha h58 h1 h2 h3
    have ho' : (upH h 77 (ints 106 G')).2 76 = mob k fed pl le fi co := ho
    repeat (refine R_s kC9 rfl rfl ?_)
    refine R_get kC9 rfl (ho') rfl ?_
    repeat (refine R_s kC9 rfl rfl ?_)
    refine R_ild kC9 rfl (h := upH h 77 (ints 106 G')) rfl (k := 58) rfl (by decide) (by decide) ?_
    rw [h58]
    refine R_ge kC9 rfl (rfl) (rfl) (by omega) (by omega) (fun hc => ?_) (fun hc => ?_)
    · omega
    · obtain ⟨x, hx⟩ : ∃ x, ch[i + 1]? = some x := ⟨ch[i + 1], List.getElem?_eq_getElem (by omega)⟩
      repeat (refine R_s kC9 rfl rfl ?_)
      refine R_get kC9 rfl (ho') rfl ?_
      repeat (refine R_s kC9 rfl rfl ?_)
      refine R_get kC9 rfl (ho') rfl ?_
      repeat (refine R_s kC9 rfl rfl ?_)
      refine R_ild kC9 rfl (h := upH h 77 (ints 106 G')) rfl (k := 60 + i) (nI_add 60 i) (by omega) (by decide) ?_
      have e1 : G' (60 + i) = nI x := by
        have := h2 (i + 1) x (by omega) hx
        rw [show 59 + (i + 1) = 60 + i by omega] at this
        exact this
      rw [e1]
      refine R_ist kC9 rfl (h := upH h 77 (ints 106 G')) rfl (by decide) (k := 59 + i) (nI_add 59 i) (by omega) (by decide) ?_
      rw [upH_upH]
      repeat (refine R_s kC9 rfl rfl ?_)
      refine R_g kC9 rfl ?_
      refine (show R d 177 19 [some (.ref 76), some (.int v), some (.int w2), some (.int (nI i + nI 1))] [] (upH h 77 (ints 106 (upd G' (59 + i) (nI x)))) Q from ?_)
      rw [nI_add]
      refine ih (i + 1) _ (by omega) (by omega) (by rw [pk_un (by omega)]; exact h58) (fun j y hj hy => ?_) (fun j y hj hy => by rw [pk_un (by omega)]; exact h2 j y (by omega) hy) (fun q hq => by rw [pk_un (by omega)]; exact h3 q hq)
      by_cases e : j = i
      · subst e
        rw [pk_us]
        rw [List.getElem?_eraseIdx, if_neg (by omega), hx] at hy
        cases hy
        rfl
      · rw [pk_un (by omega)]
        exact h1 j y (by omega) hy
section
variable {h : AH} {k fed pl le fi co : Int32} {G : Nat → Int32} {U : US}
theorem sp_MO_drop (d : Nat) (ho : h.2 76 = mob k fed pl le fi co) (hg : h.2 77 = ints 106 G) (hU : GU U G) (hr : RowsOK U) (v : Int32) : ∃ G', GU (specDrop U v).2 G' ∧ Cl (d + 1) 177 [.ref 76, .int v] h (some (.int (specDrop U v).1)) (upH h 77 (ints 106 G')) := by
  have kC9 := co_MO_drop
  cases hi : idxF v U.2.2.2.1 0 with
  | none =>
    have e : specDrop U v = (-1, U) := by unfold specDrop; rw [hi]
    rw [e]
    refine ⟨G, hU, ?_⟩
    rw [upH_self hg]
    refine Cl_of kC9 rfl rfl ?_
    repeat (refine R_s kC9 rfl rfl ?_)
    refine R_cv kC9 rfl rfl rfl rfl (ho) (by decide) (sp_MO_chosenAt d ho hg hU.2.2.2.1.1 hU.2.2.2.1.2 hr.1 v) ?_
    rw [idxR_none hi]
    repeat (refine R_s kC9 rfl rfl ?_)
    refine Rr_ne kC9 rfl (fun hc => absurd rfl hc) (fun _ => ?_)
    repeat (refine R_s kC9 rfl rfl ?_)
    exact R_ri kC9 rfl ⟨rfl, rfl⟩
  | some i =>
    have e : specDrop U v = (nI (U.2.2.2.1.length - 1), (U.1, U.2.1, U.2.2.1, U.2.2.2.1.eraseIdx i, U.2.2.2.2)) := by unfold specDrop; rw [hi]
    rw [e]
    have hil := (idxF_lt _ _ _ hi).2.1
    have hl4 := hr.1
    rw [Nat.zero_add] at hil
    refine Cl_ex (f := fun _ => some (.int (nI (U.2.2.2.1.length - 1)))) (g := fun G' => upH h 77 (ints 106 G')) kC9 rfl rfl ?_
    repeat (refine R_s kC9 rfl rfl ?_)
    refine R_cv kC9 rfl rfl rfl rfl (ho) (by decide) (sp_MO_chosenAt d ho hg hU.2.2.2.1.1 hU.2.2.2.1.2 hr.1 v) ?_
    rw [idxR_some hi]
    repeat (refine R_s kC9 rfl rfl ?_)
    refine Rr_ne kC9 rfl (fun _ => ?_) (fun hc => absurd hc (nI_ne_neg (by omega)))
    repeat (refine R_s kC9 rfl rfl ?_)
    refine R_get kC9 rfl (ho) rfl ?_
    repeat (refine R_s kC9 rfl rfl ?_)
    refine R_ild kC9 rfl (hg) (rfl) (by decide) (by decide) ?_
    rw [hU.2.2.2.1.1]
    repeat (refine R_s kC9 rfl rfl ?_)
    refine R_ist kC9 rfl (hg) (by decide) (rfl) (by decide) (by decide) ?_
    rw [pk_sub (by omega)]
    iterate 2 (refine R_s kC9 rfl rfl ?_)
    refine (show R (d + 1) 177 19 [some (.ref 76), some (.int v), some (.int (nI i)), some (.int (nI i))] [] (upH h 77 (ints 106 (upd G 58 (nI (U.2.2.2.1.length - 1))))) _ from ?_)
    refine lp_drop (G := G) (d + 1) _ ho (ch := U.2.2.2.1) hU.2.2.2.1.2 hr.1 hil v (nI i) (fun G' a58 ac aq => ?_) (U.2.2.2.1.length - 1 - i) i _ (by omega) (Nat.le_refl _) pk_us (fun j x hj hx => ?_) (fun j x hj hx => by rw [pk_un (by omega)]; exact hU.2.2.2.1.2 j x hx) (fun q hq => by rw [pk_un (by omega)])
    · repeat (refine R_s kC9 rfl rfl ?_)
      refine R_get kC9 rfl (show (upH h 77 (ints 106 G')).2 76 = mob k fed pl le fi co from ho) rfl ?_
      repeat (refine R_s kC9 rfl rfl ?_)
      refine R_ild kC9 rfl (h := upH h 77 (ints 106 G')) rfl (k := 58) rfl (by decide) (by decide) ?_
      rw [a58]
      refine R_ri kC9 rfl ⟨G', ⟨by rw [aq 0 (by omega)]; exact hU.1, fun s hs => by rw [aq _ (by omega)]; exact hU.2.1 s hs, fun q hq => by rw [aq _ (by omega)]; exact hU.2.2.1 q hq, ⟨by rw [a58, List.length_eraseIdx_of_lt hil], ac⟩, hU.2.2.2.2.1.congr (by have := hr.2.1; omega) (fun q h1 _ => aq q (by omega)), hU.2.2.2.2.2.1.congr hr.2.2.1 (fun q h1 _ => aq q (by omega)), hU.2.2.2.2.2.2.congr hr.2.2.2 (fun q h1 _ => aq q (by omega))⟩, rfl, rfl⟩
    · rw [List.getElem?_eraseIdx, if_pos hj] at hx
      rw [pk_un (by omega)]
      exact hU.2.2.2.1.2 j x hx
end
/-- the text: what is here -/
def hereF (tx : List Nat) (p : Nat) : Int32 := match tx[p]? with
  | some x => nI x
  | none => -1
def mostF (c : Int32) : Nat := if c = nI 110 ∨ c = nI 107 then 1 else if c = nI 108 then 2 else if c = nI 115 ∨ c = nI 116 ∨ c = nI 99 then 5 else 0
theorem mostF_le (c : Int32) : mostF c ≤ 5 := by unfold mostF; split; decide; split; decide; split <;> decide
def isDg (c : Int32) : Bool := decide (48 ≤ c.toInt ∧ c.toInt ≤ 57)
/-- how many digits stand from q on, m at most -/
def digN (tx : List Nat) : Nat → Nat → Nat
  | _, 0 => 0
  | q, m + 1 => if isDg (hereF tx q) = true then digN tx (q + 1) m + 1 else 0
theorem digN_succ (tx : List Nat) (q m : Nat) : digN tx q (m + 1) = if isDg (hereF tx q) = true then digN tx (q + 1) m + 1 else 0 := rfl
theorem digN_le (tx : List Nat) : ∀ (m q : Nat), digN tx q m ≤ m
  | 0, q => Nat.le_refl 0
  | m + 1, q => by
    rw [digN_succ]
    split
    · have := digN_le tx m (q + 1); omega
    · omega
/-- the reference's text row -/
def TxR (tx : List Nat) (T : Nat → Int32) : Prop := tx.length ≤ 100 ∧ (∀ x ∈ tx, x < 128) ∧ ∀ i x, tx[i]? = some x → T i = nI x
def specFeed (tx : List Nat) (v : Int32) : Int32 × List Nat := if 0 ≤ v.toInt ∧ v.toInt ≤ 127 then (if tx.length = 100 then (-4, tx) else (nI (tx.length + 1), tx ++ [v.toNatClampNeg])) else (-2, tx)
section
variable {h : AH} {k fed pl le fi co : Int32} {G T Fg : Nat → Int32} {U : US} {tx : List Nat}
theorem sp_MO_feed (d : Nat) (ho : h.2 76 = mob k (nI tx.length) pl le fi co) (hT : h.2 81 = ints 100 T) (hx : TxR tx T) (v : Int32) : ∃ T', TxR (specFeed tx v).2 T' ∧ Cl (d + 1) 178 [.ref 76, .int v] h (some (.int (specFeed tx v).1)) (upH (upH h 81 (ints 100 T')) 76 (mob k (nI (specFeed tx v).2.length) pl le fi co)) := by
  have kC9 := co_MO_feed
  have keep : upH (upH h 81 (ints 100 T)) 76 (mob k (nI tx.length) pl le fi co) = h := by rw [upH_self hT, upH_self ho]
  have hl := hx.1
  by_cases hv : 0 ≤ v.toInt ∧ v.toInt ≤ 127
  · obtain ⟨c, c1, c2, c3, rfl⟩ := rng_nI (a := 0) (b := 127) hv
    by_cases h100 : tx.length = 100
    · have e : specFeed tx (nI c) = (-4, tx) := by unfold specFeed; rw [if_pos hv, if_pos h100]
      rw [e]
      refine ⟨T, hx, ?_⟩
      dsimp only
      rw [keep]
      refine Cl_of kC9 rfl rfl ?_
      repeat (refine R_s kC9 rfl rfl ?_)
      refine R_cs kC9 rfl rfl rfl rfl (sp_MO_isIn d _ _ _ h) ?_
      refine ZB_ne kC9 rfl (fun _ => ?_) (fun hc => ?_)
      · repeat (refine R_s kC9 rfl rfl ?_)
        refine R_get kC9 rfl (ho) rfl ?_
        repeat (refine R_s kC9 rfl rfl ?_)
        refine R_ne kC9 rfl rfl rfl (by omega) (by omega) (fun hc => absurd h100 hc) (fun _ => ?_)
        repeat (refine R_s kC9 rfl rfl ?_)
        exact R_ri kC9 rfl ⟨rfl, rfl⟩
      · rw [decide_eq_false_iff_not, Int32.toInt_toInt64] at hc
        exact absurd hv hc
    · have e : specFeed tx (nI c) = (nI (tx.length + 1), tx ++ [c]) := by unfold specFeed; rw [if_pos hv, if_neg h100, nI_clamp c3]
      rw [e]
      refine ⟨upd T tx.length (nI c), ⟨by dsimp only; rw [List.length_append]; simp only [List.length_cons, List.length_nil]; omega, fun x hm => ?_, fun i x hi => ?_⟩, ?_⟩
      · rcases List.mem_append.mp hm with q | q
        · exact hx.2.1 x q
        · have : x = c := by simpa using q
          omega
      · dsimp only at hi
        rcases Nat.lt_or_ge i tx.length with q | q
        · rw [List.getElem?_append_left q] at hi
          rw [pk_un (by omega)]
          exact hx.2.2 i x hi
        · rw [List.getElem?_append_right q] at hi
          have hlt := (List.getElem?_eq_some_iff.mp hi).1
          simp only [List.length_cons, List.length_nil] at hlt
          have e2 : i = tx.length := by omega
          subst e2
          rw [Nat.sub_self] at hi
          cases hi
          exact pk_us
      · dsimp only
        rw [show (tx ++ [c]).length = tx.length + 1 by rw [List.length_append]; rfl]
        refine Cl_of kC9 rfl rfl ?_
        repeat (refine R_s kC9 rfl rfl ?_)
        refine R_cs kC9 rfl rfl rfl rfl (sp_MO_isIn d _ _ _ h) ?_
        refine ZB_ne kC9 rfl (fun _ => ?_) (fun hc => ?_)
        · repeat (refine R_s kC9 rfl rfl ?_)
          refine R_get kC9 rfl (ho) rfl ?_
          repeat (refine R_s kC9 rfl rfl ?_)
          refine R_ne kC9 rfl rfl rfl (by omega) (by omega) (fun _ => ?_) (fun hc => absurd hc h100)
          repeat (refine R_s kC9 rfl rfl ?_)
          refine R_get kC9 rfl (ho) rfl ?_
          repeat (refine R_s kC9 rfl rfl ?_)
          refine R_get kC9 rfl (ho) rfl ?_
          repeat (refine R_s kC9 rfl rfl ?_)
          refine R_ist kC9 rfl (hT) (by decide) (rfl) (by omega) (by decide) ?_
          have ho' : (upH h 81 (ints 100 (upd T tx.length (nI c)))).2 76 = mob k (nI tx.length) pl le fi co := ho
          repeat (refine R_s kC9 rfl rfl ?_)
          refine R_get kC9 rfl (ho') rfl ?_
          repeat (refine R_s kC9 rfl rfl ?_)
          refine R_put kC9 rfl (ho') (by decide) (Nat.le_of_ble_eq_true rfl) rfl ?_
          rw [nI_add]
          refine (show R (d + 1) 178 26 _ [] (upH (upH h 81 (ints 100 (upd T tx.length (nI c)))) 76 (mob k (nI (tx.length + 1)) pl le fi co)) _ from ?_)
          repeat (refine R_s kC9 rfl rfl ?_)
          refine R_get kC9 rfl (h := upH (upH h 81 (ints 100 (upd T tx.length (nI c)))) 76 (mob k (nI (tx.length + 1)) pl le fi co)) rfl rfl ?_
          exact R_ri kC9 rfl ⟨rfl, rfl⟩
        · rw [decide_eq_false_iff_not, Int32.toInt_toInt64] at hc
          exact absurd hv hc
  · have e : specFeed tx v = (-2, tx) := by unfold specFeed; rw [if_neg hv]
    rw [e]
    refine ⟨T, hx, ?_⟩
    dsimp only
    rw [keep]
    refine Cl_of kC9 rfl rfl ?_
    repeat (refine R_s kC9 rfl rfl ?_)
    refine R_cs kC9 rfl rfl rfl rfl (sp_MO_isIn d _ _ _ h) ?_
    refine ZB_ne kC9 rfl (fun hc => ?_) (fun _ => ?_)
    · rw [decide_eq_true_eq, Int32.toInt_toInt64] at hc
      exact absurd hc hv
    · repeat (refine R_s kC9 rfl rfl ?_)
      exact R_ri kC9 rfl ⟨rfl, rfl⟩
theorem sp_MO_here (d : Nat) {p : Nat} (ho : h.2 76 = mob k (nI tx.length) (nI p) le fi co) (hT : h.2 81 = ints 100 T) (hx : TxR tx T) (hp : p < 1000) : Cl d 179 [.ref 76] h (some (.int (hereF tx p))) h := by
  have hl := hx.1
  have kC9 := co_MO_here
  refine Cl_of kC9 rfl rfl ?_
  repeat (refine R_s kC9 rfl rfl ?_)
  refine R_get kC9 rfl (ho) rfl ?_
  repeat (refine R_s kC9 rfl rfl ?_)
  refine R_get kC9 rfl (ho) rfl ?_
  refine R_ge kC9 rfl (rfl) (rfl) (by omega) (by omega) (fun hc => ?_) (fun hc => ?_)
  · repeat (refine R_s kC9 rfl rfl ?_)
    refine R_ri kC9 rfl ⟨ri_eq ?_, rfl⟩
    unfold hereF
    rw [List.getElem?_eq_none hc]
  · repeat (refine R_s kC9 rfl rfl ?_)
    refine R_get kC9 rfl (ho) rfl ?_
    repeat (refine R_s kC9 rfl rfl ?_)
    refine R_get kC9 rfl (ho) rfl ?_
    refine R_ild kC9 rfl (hT) (rfl) (by omega) (by decide) ?_
    refine R_g kC9 rfl ?_
    refine R_ri kC9 rfl ⟨ri_eq ?_, rfl⟩
    unfold hereF
    rw [List.getElem?_eq_getElem hc]
    exact hx.2.2 p _ (List.getElem?_eq_getElem hc)
theorem sp_MO_most (d : Nat) (c : Int32) : Cl d 180 [.int c] h (some (.int (nI (mostF c)))) h := by
  have kC9 := co_MO_most
  refine Cl_of kC9 rfl rfl ?_
  have f1 : (c = nI 110 ∨ c = nI 107) → mostF c = 1 := fun q => by unfold mostF; rw [if_pos q]
  have f2 : ¬ (c = nI 110 ∨ c = nI 107) → c = nI 108 → mostF c = 2 := fun q q2 => by unfold mostF; rw [if_neg q, if_pos q2]
  have f3 : ¬ (c = nI 110 ∨ c = nI 107) → ¬ c = nI 108 → (c = nI 115 ∨ c = nI 116 ∨ c = nI 99) → mostF c = 5 := fun q q2 q3 => by unfold mostF; rw [if_neg q, if_neg q2, if_pos q3]
  have f4 : ¬ (c = nI 110 ∨ c = nI 107) → ¬ c = nI 108 → ¬ (c = nI 115 ∨ c = nI 116 ∨ c = nI 99) → mostF c = 0 := fun q q2 q3 => by unfold mostF; rw [if_neg q, if_neg q2, if_neg q3]
  repeat (refine R_s kC9 rfl rfl ?_)
  refine Rr_eq kC9 rfl (fun h1 => ?_) (fun h1 => ?_)
  · repeat (refine R_s kC9 rfl rfl ?_)
    refine R_g kC9 rfl ?_
    exact R_ri kC9 rfl ⟨ri_eq (by rw [f1 (Or.inl h1)]), rfl⟩
  · repeat (refine R_s kC9 rfl rfl ?_)
    refine Rr_ne kC9 rfl (fun h2 => ?_) (fun h2 => ?_)
    · have hn : ¬ (c = nI 110 ∨ c = nI 107) := fun q => q.elim h1 h2
      repeat (refine R_s kC9 rfl rfl ?_)
      refine Rr_ne kC9 rfl (fun h3 => ?_) (fun h3 => ?_)
      · repeat (refine R_s kC9 rfl rfl ?_)
        refine Rr_eq kC9 rfl (fun h4 => ?_) (fun h4 => ?_)
        · repeat (refine R_s kC9 rfl rfl ?_)
          refine R_g kC9 rfl ?_
          exact R_ri kC9 rfl ⟨ri_eq (by rw [f3 hn h3 (Or.inl h4)]), rfl⟩
        · repeat (refine R_s kC9 rfl rfl ?_)
          refine Rr_eq kC9 rfl (fun h5 => ?_) (fun h5 => ?_)
          · repeat (refine R_s kC9 rfl rfl ?_)
            refine R_g kC9 rfl ?_
            exact R_ri kC9 rfl ⟨ri_eq (by rw [f3 hn h3 (Or.inr (Or.inl h5))]), rfl⟩
          · repeat (refine R_s kC9 rfl rfl ?_)
            refine Rr_ne kC9 rfl (fun h6 => ?_) (fun h6 => ?_)
            · repeat (refine R_s kC9 rfl rfl ?_)
              exact R_ri kC9 rfl ⟨ri_eq (by rw [f4 hn h3 (fun q => q.elim h4 (fun q => q.elim h5 h6))]), rfl⟩
            · repeat (refine R_s kC9 rfl rfl ?_)
              refine R_g kC9 rfl ?_
              exact R_ri kC9 rfl ⟨ri_eq (by rw [f3 hn h3 (Or.inr (Or.inr h6))]), rfl⟩
      · repeat (refine R_s kC9 rfl rfl ?_)
        refine R_g kC9 rfl ?_
        exact R_ri kC9 rfl ⟨ri_eq (by rw [f2 hn h3]), rfl⟩
    · repeat (refine R_s kC9 rfl rfl ?_)
      refine R_g kC9 rfl ?_
      exact R_ri kC9 rfl ⟨ri_eq (by rw [f1 (Or.inr h2)]), rfl⟩
end
