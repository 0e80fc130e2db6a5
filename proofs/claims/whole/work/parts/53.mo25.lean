/-! THE REFERENCE, 24: finds -/
abbrev bsH (h : AH) (La St Nr : Nat → Int32) : AH := upH (upH (upH h 83 (ints 33 La)) 86 (ints 600 St)) 87 (ints 480 Nr)
abbrev fdH (h : AH) (k fed pl le fi : Int32) (N La Ns C St Nr : Nat → Int32) (co : Nat) : AH := grH (bsH h La St Nr) k fed pl le fi N Ns C co
section
variable {h : AH} {k fed pl le fi : Int32} {N La Ns C St Nr : Nat → Int32} {co : Nat}
theorem fdH_La (La' : Nat → Int32) : upH (fdH h k fed pl le fi N La Ns C St Nr co) 83 (ints 33 La') = fdH h k fed pl le fi N La' Ns C St Nr co := by
  refine heap_ext rfl (fun q => ?_)
  simp only [upH]
  repeat' split
  all_goals first | rfl | (simp_all)
theorem fdH_C (C' : Nat → Int32) : upH (fdH h k fed pl le fi N La Ns C St Nr co) 85 (ints 120 C') = fdH h k fed pl le fi N La Ns C' St Nr co := by
  refine heap_ext rfl (fun q => ?_)
  simp only [upH]
  repeat' split
  all_goals first | rfl | (simp_all)
theorem fdH_St (St' : Nat → Int32) : upH (fdH h k fed pl le fi N La Ns C St Nr co) 86 (ints 600 St') = fdH h k fed pl le fi N La Ns C St' Nr co := by
  refine heap_ext rfl (fun q => ?_)
  simp only [upH]
  repeat' split
  all_goals first | rfl | (simp_all)
theorem fdH_Nr (Nr' : Nat → Int32) : upH (fdH h k fed pl le fi N La Ns C St Nr co) 87 (ints 480 Nr') = fdH h k fed pl le fi N La Ns C St Nr' co := by
  refine heap_ext rfl (fun q => ?_)
  simp only [upH]
  repeat' split
  all_goals first | rfl | (simp_all)
theorem fdH_co (co' : Nat) : upH (fdH h k fed pl le fi N La Ns C St Nr co) 76 (mob k fed pl le fi (nI co')) = fdH h k fed pl le fi N La Ns C St Nr co' := by
  refine heap_ext rfl (fun q => ?_)
  simp only [upH]
  repeat' split
  all_goals first | rfl | (simp_all)
theorem fdH_self (ho : h.2 76 = mob k fed pl le fi (nI co)) (h80 : h.2 80 = ints 5 N) (h83 : h.2 83 = ints 33 La) (h84 : h.2 84 = ints 5 Ns) (h85 : h.2 85 = ints 120 C) (h86 : h.2 86 = ints 600 St) (h87 : h.2 87 = ints 480 Nr) : fdH h k fed pl le fi N La Ns C St Nr co = h := by
  refine heap_ext rfl (fun q => ?_)
  simp only [upH]
  repeat' split
  all_goals first | rfl | (simp_all)
end
section
variable {h : AH} {k fed pl le fi : Int32} {G : Nat → Int32} {n : Nat} {S : Int32}
theorem lp_fd0 (d : Nat) (Q : Option Value → AH → Prop) {N La C St Nr : Nat → Int32} {co : Nat} (kk : ∀ Ns', (∀ q, q < 5 → Ns' q = nI 0) → R d 201 19 [some (.ref 76), some (.int (nI 5)), none] [] (fdH h k fed pl le fi N La Ns' C St Nr co) Q) : ∀ (m i : Nat) (Ns : Nat → Int32), i + m = 5 → (∀ q, q < i → Ns q = nI 0) → R d 201 9 [some (.ref 76), some (.int (nI i)), none] [] (fdH h k fed pl le fi N La Ns C St Nr co) Q := by
  have kC9 := co_MO_finds
  intro m
  induction m with
  | zero =>
    intro i Ns hi h1
    have : i = 5 := by omega
    subst this
    repeat (refine R_s kC9 rfl rfl ?_)
    refine R_ge kC9 rfl (rfl) (rfl) (by omega) (by omega) (fun hc => ?_) (fun hc => ?_)
    · exact kk Ns h1
    · omega
  | succ m ih =>
    intro i Ns hi h1
    repeat (refine R_s kC9 rfl rfl ?_)
    refine R_ge kC9 rfl (rfl) (rfl) (by omega) (by omega) (fun hc => ?_) (fun hc => ?_)
    · omega
    · repeat (refine R_s kC9 rfl rfl ?_)
      refine R_get kC9 rfl (h := fdH h k fed pl le fi N La Ns C St Nr co) rfl rfl ?_
      repeat (refine R_s kC9 rfl rfl ?_)
      refine R_ist kC9 rfl (h := fdH h k fed pl le fi N La Ns C St Nr co) rfl (by decide) (k := i) rfl (by omega) (by decide) ?_
      rw [grH_Ns]
      repeat (refine R_s kC9 rfl rfl ?_)
      refine R_g kC9 rfl ?_
      refine (show R d 201 9 [some (.ref 76), some (.int (nI i + nI 1)), none] [] (fdH h k fed pl le fi N La (upd Ns i (nI 0)) C St Nr co) Q from ?_)
      rw [nI_add]
      refine ih (i + 1) _ (by omega) (fun q hq => ?_)
      by_cases e : q = i
      · subst e; rw [pk_us]
      · rw [pk_un e]; exact h1 q (by omega)
theorem lp_fdS (d : Nat) (Q : Option Value → AH → Prop) (hg : h.2 77 = ints 106 G) (hn : n ≤ 5) (hn1 : 1 ≤ n) (h0 : G 0 = nI n) (hS : ∀ s, s < 32 → G (1 + s) = b2i (bt S s)) {N La Ns C Nr : Nat → Int32} {co c : Nat} (hc120 : c < 120) {x : List Nat} (hx : C c = chM x) {St : Nat → Int32} (kk : ∀ St', (∀ p, p < 5 → St' (5 * c + p) = nI (rowF n S x p)) → (∀ q, q < 5 * c → St' q = St q) → R (d + 3) 201 58 [some (.ref 76), some (.int (nI c)), some (.int (nI 5))] [] (fdH h k fed pl le fi N La Ns C St' Nr co) Q) : ∀ (m p : Nat) (St' : Nat → Int32), p + m = 5 → (∀ q, q < p → St' (5 * c + q) = nI (rowF n S x q)) → (∀ q, q < 5 * c → St' q = St q) → R (d + 3) 201 32 [some (.ref 76), some (.int (nI c)), some (.int (nI p))] [] (fdH h k fed pl le fi N La Ns C St' Nr co) Q := by
  have kC9 := co_MO_finds
  intro m
  induction m with
  | zero =>
    intro p St' hp h1 h2
    have : p = 5 := by omega
    subst this
    repeat (refine R_s kC9 rfl rfl ?_)
    refine R_ge kC9 rfl (rfl) (rfl) (by omega) (by omega) (fun hc => ?_) (fun hc => ?_)
    · exact kk St' h1 h2
    · omega
  | succ m ih =>
    intro p St' hp h1 h2
    have ho : (fdH h k fed pl le fi N La Ns C St' Nr co).2 76 = mob k fed pl le fi (nI co) := rfl
    have hg' : (fdH h k fed pl le fi N La Ns C St' Nr co).2 77 = ints 106 G := hg
    have hC' : (fdH h k fed pl le fi N La Ns C St' Nr co).2 85 = ints 120 C := rfl
    have goon : R (d + 3) 201 55 [some (.ref 76), some (.int (nI c)), some (.int (nI p))] [.int (nI (rowF n S x p)), .int (nI (5 * c + p)), .ref 86] (fdH h k fed pl le fi N La Ns C St' Nr co) Q := by
      refine R_ist kC9 rfl (h := fdH h k fed pl le fi N La Ns C St' Nr co) rfl (by decide) (k := 5 * c + p) rfl (by omega) (by decide) ?_
      rw [fdH_St]
      repeat (refine R_s kC9 rfl rfl ?_)
      refine R_g kC9 rfl ?_
      refine (show R (d + 3) 201 32 [some (.ref 76), some (.int (nI c)), some (.int (nI p + nI 1))] [] (fdH h k fed pl le fi N La Ns C (upd St' (5 * c + p) (nI (rowF n S x p))) Nr co) Q from ?_)
      rw [nI_add]
      refine ih (p + 1) _ (by omega) (fun q hq => ?_) (fun q hq => by rw [pk_un (by omega)]; exact h2 q hq)
      by_cases e : q = p
      · subst e; rw [pk_us]
      · rw [pk_un (by omega)]; exact h1 q (by omega)
    repeat (refine R_s kC9 rfl rfl ?_)
    refine R_ge kC9 rfl (rfl) (rfl) (by omega) (by omega) (fun hc => ?_) (fun hc => ?_)
    · omega
    · repeat (refine R_s kC9 rfl rfl ?_)
      refine R_get kC9 rfl (ho) rfl ?_
      iterate 5 (refine R_s kC9 rfl rfl ?_)
      refine (show R (d + 3) 201 42 _ [.int (nI 5 * nI c + nI p), .ref 86] _ Q from ?_)
      rw [pk_mul, nI_add]
      repeat (refine R_s kC9 rfl rfl ?_)
      refine R_cv kC9 rfl rfl rfl rfl ho (by decide) (sp_MO_isPoint (d + 1) ho hg' hn hn1 h0 (nI p)) ?_
      refine ZB_eq kC9 rfl (fun q => ?_) (fun q => ?_)
      · iterate 1 (refine R_s kC9 rfl rfl ?_)
        have e : rowF n S x p = 0 := by
          unfold rowF
          rw [ptB_nI (by omega), decide_eq_false_iff_not] at q
          rw [if_neg q]
        rw [e] at goon
        exact goon
      · have e : rowF n S x p = stdN S (aroundN n (chM x) p) p := by
          unfold rowF
          rw [ptB_nI (by omega), decide_eq_true_eq] at q
          rw [if_pos q]
        repeat (refine R_s kC9 rfl rfl ?_)
        refine R_get kC9 rfl (ho) rfl ?_
        repeat (refine R_s kC9 rfl rfl ?_)
        refine R_ild kC9 rfl (hC') (rfl) (hc120) (by decide) ?_
        rw [hx]
        repeat (refine R_s kC9 rfl rfl ?_)
        refine R_cv kC9 rfl rfl rfl rfl ho (by decide) (sp_MO_standing d ho hg' hn hn1 h0 hS (chM x) (p := p) (by omega)) ?_
        refine R_g kC9 rfl ?_
        rw [e] at goon
        exact goon
theorem lp_fdI (d : Nat) (Q : Option Value → AH → Prop) (hg : h.2 77 = ints 106 G) (hn : n ≤ 5) (h0 : G 0 = nI n) {N La Ns Nr : Nat → Int32} {co c : Nat} {x : List Nat} {rest : List (List Nat)} (hc120 : c < 120) : ∀ (Ar B : List (List Nat)) (C St : Nat → Int32), Ar.length ≤ c → AtP (PC C) (Ar.reverse ++ x :: (B ++ rest)) → AtP (PS n S St) (Ar.reverse ++ x :: B) → (∀ C' St' w, AtP (PC C') ((insR n S x Ar).reverse ++ (B ++ rest)) → AtP (PS n S St') ((insR n S x Ar).reverse ++ B) → R (d + 1) 201 77 [some (.ref 76), some (.int (nI c)), w] [] (fdH h k fed pl le fi N La Ns C' St' Nr co) Q) → R (d + 1) 201 60 [some (.ref 76), some (.int (nI c)), some (.int (nI Ar.length))] [] (fdH h k fed pl le fi N La Ns C St Nr co) Q := by
  have kC9 := co_MO_finds
  intro Ar
  induction Ar with
  | nil =>
    intro B C St hl hC hS' kk
    repeat (refine R_s kC9 rfl rfl ?_)
    refine Z_le kC9 rfl (u := 0) rfl (by omega) (fun _ => ?_) (fun q => by omega)
    exact kk C St _ hC hS'
  | cons y t ih =>
    intro B C St hl hC hS' kk
    have ho : (fdH h k fed pl le fi N La Ns C St Nr co).2 76 = mob k fed pl le fi (nI co) := rfl
    have hg' : (fdH h k fed pl le fi N La Ns C St Nr co).2 77 = ints 106 G := hg
    have hC' : (fdH h k fed pl le fi N La Ns C St Nr co).2 85 = ints 120 C := rfl
    have hSt' : (fdH h k fed pl le fi N La Ns C St Nr co).2 86 = ints 600 St := rfl
    rw [List.length_cons] at hl
    have eC : (y :: t).reverse ++ x :: (B ++ rest) = t.reverse ++ y :: x :: (B ++ rest) := by rw [List.reverse_cons, List.append_assoc]; rfl
    have eS : (y :: t).reverse ++ x :: B = t.reverse ++ y :: x :: B := by rw [List.reverse_cons, List.append_assoc]; rfl
    rw [eC] at hC
    rw [eS] at hS'
    have rx : PS n S St (t.length + 1) x := hS' _ _ (by rw [List.getElem?_append, if_neg (by rw [List.length_reverse]; omega), List.length_reverse, show t.length + 1 - t.length = 1 by omega]; rfl)
    have ry : PS n S St t.length y := hS' _ _ (by rw [List.getElem?_append, if_neg (by rw [List.length_reverse]; omega), List.length_reverse, Nat.sub_self]; rfl)
    have hah := sp_MO_isAhead d ho hg' hn h0 hSt' (a := t.length + 1) (b := t.length) (by omega) (by omega) (x := rowF n S x) (y := rowF n S y) (fun p hp => ⟨rx p hp, by have := rowF_le n S x p; omega⟩) (fun p hp => ⟨ry p hp, by have := rowF_le n S y p; omega⟩)
    rw [List.length_cons]
    repeat (refine R_s kC9 rfl rfl ?_)
    refine Z_le kC9 rfl rfl (by omega) (fun q => by omega) (fun _ => ?_)
    iterate 5 (refine R_s kC9 rfl rfl ?_)
    refine (show R (d + 1) 201 67 _ [.int (nI (t.length + 1) - nI 1), .int (nI (t.length + 1)), .ref 76] _ Q from ?_)
    rw [pk_sub (show 1 ≤ t.length + 1 by omega), Nat.add_sub_cancel]
    refine R_cv kC9 rfl rfl rfl rfl ho (by decide) hah ?_
    refine ZB_eq kC9 rfl (fun q => ?_) (fun q => ?_)
    · have ei : insR n S x (y :: t) = x :: y :: t := by rw [insR_cons]; unfold ahL; rw [q, if_neg (by decide)]
      refine kk C St _ ?_ ?_
      · rw [ei, List.reverse_cons, List.append_assoc]
        refine (show AtP (PC C) ((y :: t).reverse ++ x :: (B ++ rest)) from ?_)
        rw [eC]
        exact hC
      · rw [ei, List.reverse_cons, List.append_assoc]
        refine (show AtP (PS n S St) ((y :: t).reverse ++ x :: B) from ?_)
        rw [eS]
        exact hS'
    · have ei : insR n S x (y :: t) = y :: insR n S x t := by rw [insR_cons]; unfold ahL; rw [q, if_pos rfl]
      iterate 5 (refine R_s kC9 rfl rfl ?_)
      refine (show R (d + 1) 201 74 _ [.int (nI (t.length + 1) - nI 1), .int (nI (t.length + 1)), .ref 76] _ Q from ?_)
      rw [pk_sub (show 1 ≤ t.length + 1 by omega), Nat.add_sub_cancel]
      refine R_cv kC9 rfl rfl rfl rfl ho (by decide) (sp_MO_changes d ho hC' hSt' (a := t.length + 1) (b := t.length) (by omega) (by omega) (by omega)) ?_
      rw [fdH_C, fdH_St]
      repeat (refine R_s kC9 rfl rfl ?_)
      refine R_g kC9 rfl ?_
      refine (show R (d + 1) 201 60 [some (.ref 76), some (.int (nI c)), some (.int (nI (t.length + 1) + (-1)))] [] (fdH h k fed pl le fi N La Ns (swC C (t.length + 1) t.length) (swS St (t.length + 1) t.length) Nr co) Q from ?_)
      rw [nI_dec (show 1 ≤ t.length + 1 by omega), Nat.add_sub_cancel]
      have hC2 := PC_sw hC
      have hS2 := PS_sw hS'
      rw [List.length_reverse] at hC2 hS2
      refine ih (y :: B) _ _ (by omega) hC2 hS2 (fun C' St' w q1 q2 => kk C' St' w ?_ ?_)
      · rw [ei, List.reverse_cons, List.append_assoc]
        exact q1
      · rw [ei, List.reverse_cons, List.append_assoc]
        exact q2
theorem lp_fdO (d : Nat) (Q : Option Value → AH → Prop) (hg : h.2 77 = ints 106 G) (hn : n ≤ 5) (hn1 : 1 ≤ n) (h0 : G 0 = nI n) (hS : ∀ s, s < 32 → G (1 + s) = b2i (bt S s)) {N La Ns Nr : Nat → Int32} {co : Nat} (hco : co ≤ 120) {L0 : List (List Nat)} (kk : ∀ C' St' w, AtP (PC C') (srtR n S L0 []).reverse → AtP (PS n S St') (srtR n S L0 []).reverse → R (d + 3) 201 79 [some (.ref 76), some (.int (nI co)), w] [] (fdH h k fed pl le fi N La Ns C' St' Nr co) Q) : ∀ (rest acc : List (List Nat)) (C St : Nat → Int32) (w : Option Value), acc.length + rest.length = co → srtR n S rest acc = srtR n S L0 [] → AtP (PC C) (acc.reverse ++ rest) → AtP (PS n S St) acc.reverse → R (d + 3) 201 26 [some (.ref 76), some (.int (nI acc.length)), w] [] (fdH h k fed pl le fi N La Ns C St Nr co) Q := by
  have kC9 := co_MO_finds
  intro rest
  induction rest with
  | nil =>
    intro acc C St w hl hsr hC hS'
    rw [List.length_nil] at hl
    have e : srtR n S [] acc = acc := rfl
    rw [e] at hsr
    rw [List.append_nil] at hC
    repeat (refine R_s kC9 rfl rfl ?_)
    refine R_get kC9 rfl (h := fdH h k fed pl le fi N La Ns C St Nr co) rfl rfl ?_
    refine R_ge kC9 rfl (rfl) (rfl) (by omega) (by omega) (fun hc => ?_) (fun hc => ?_)
    · have e2 : acc.length = co := by omega
      rw [e2]
      rw [hsr] at hC hS'
      exact kk C St w hC hS'
    · omega
  | cons x rest ih =>
    intro acc C St w hl hsr hC hS'
    rw [List.length_cons] at hl
    have hx : C acc.length = chM x := hC _ _ (by rw [List.getElem?_append, if_neg (by rw [List.length_reverse]; omega), List.length_reverse, Nat.sub_self]; rfl)
    repeat (refine R_s kC9 rfl rfl ?_)
    refine R_get kC9 rfl (h := fdH h k fed pl le fi N La Ns C St Nr co) rfl rfl ?_
    refine R_ge kC9 rfl (rfl) (rfl) (by omega) (by omega) (fun hc => ?_) (fun hc => ?_)
    · omega
    · iterate 2 (refine R_s kC9 rfl rfl ?_)
      refine lp_fdS d Q hg hn hn1 h0 hS (c := acc.length) (by omega) hx (St := St) (fun St1 a1 a2 => ?_) 5 0 St (by omega) (fun q hq => by omega) (fun q _ => rfl)
      iterate 2 (refine R_s kC9 rfl rfl ?_)
      have hS1 : AtP (PS n S St1) (acc.reverse ++ [x]) := by
        intro i z hz
        rw [List.getElem?_append] at hz
        split at hz
        · rename_i hlt
          intro p hp
          rw [List.length_reverse] at hlt
          rw [a2 _ (by omega)]
          exact hS' i z hz p hp
        · rename_i hge
          rw [List.length_reverse] at hz hge
          have hz0 := (List.getElem?_eq_some_iff.mp hz).1
          have : i = acc.length := by simp at hz0; omega
          subst this
          rw [Nat.sub_self] at hz
          have : x = z := by simpa using hz
          subst this
          exact a1
      refine lp_fdI (S := S) (d + 2) Q hg hn h0 (c := acc.length) (x := x) (rest := rest) (by omega) acc [] C St1 (Nat.le_refl _) hC hS1 (fun C' St' w q1 q2 => ?_)
      rw [List.append_nil] at q2
      repeat (refine R_s kC9 rfl rfl ?_)
      refine R_g kC9 rfl ?_
      refine (show R (d + 3) 201 26 [some (.ref 76), some (.int (nI acc.length + nI 1)), w] [] (fdH h k fed pl le fi N La Ns C' St' Nr co) Q from ?_)
      rw [nI_add]
      have := ih (insR n S x acc) C' St' w (by rw [insR_len]; omega) (by rw [← hsr]; rfl) q1 q2
      rw [insR_len] at this
      exact this
/-- a corner's flips -/
noncomputable def nearR (n : Nat) (S : Int32) (c j : Nat) : Option Nat := flF (restM (chM ((cornS n S).getD c [])) (((cornS n S).getD c []).getD j 0)) c (cornM n S) 0
theorem lp_fdK (d : Nat) (Q : Option Value → AH → Prop) (hg : h.2 77 = ints 106 G) (hn : n ≤ 5) (hn2 : 2 ≤ n) (h0 : G 0 = nI n) {N La Ns C St : Nat → Int32} (hco : (cornS n S).length ≤ 120) (hC : AtP (PC C) (cornS n S)) {c : Nat} (hc : c < (cornS n S).length) {Nr : Nat → Int32} (kk : ∀ Nr', (∀ j, j < n - 1 → Nr' (4 * c + j) = optI (nearR n S c j)) → (∀ q, q < 4 * c → Nr' q = Nr q) → R (d + 2) 201 109 [some (.ref 76), some (.int (nI c)), some (.int (nI (n - 1)))] [] (fdH h k fed pl le fi N La Ns C St Nr' (cornS n S).length) Q) : ∀ (m j : Nat) (Nr' : Nat → Int32), j + m = n - 1 → (∀ q, q < j → Nr' (4 * c + q) = optI (nearR n S c q)) → (∀ q, q < 4 * c → Nr' q = Nr q) → R (d + 2) 201 87 [some (.ref 76), some (.int (nI c)), some (.int (nI j))] [] (fdH h k fed pl le fi N La Ns C St Nr' (cornS n S).length) Q := by
  have kC9 := co_MO_finds
  have eM : (cornM n S).length = (cornS n S).length := by unfold cornM; rw [List.length_map]
  have hcx : (cornS n S)[c]? = some ((cornS n S).getD c []) := by rw [List.getD_eq_getElem?_getD, List.getElem?_eq_getElem hc]; rfl
  have hok := corn_ok hn hn2 (List.mem_of_getElem? hcx)
  have eMc : (cornM n S).getD c 0 = chM ((cornS n S).getD c []) := by unfold cornM; rw [List.getD_eq_getElem?_getD, List.getElem?_map, hcx]; rfl
  intro m
  induction m with
  | zero =>
    intro j Nr' hj h1 h2
    repeat (refine R_s kC9 rfl rfl ?_)
    refine R_get kC9 rfl (h := fdH h k fed pl le fi N La Ns C St Nr' (cornS n S).length) rfl rfl ?_
    repeat (refine R_s kC9 rfl rfl ?_)
    refine R_ild kC9 rfl (show (fdH h k fed pl le fi N La Ns C St Nr' (cornS n S).length).2 77 = ints 106 G from hg) (k := 0) rfl (by decide) (by decide) ?_
    rw [h0]
    repeat (refine R_s kC9 rfl rfl ?_)
    refine R_ge kC9 rfl rfl (pk_sub (by omega)) (by omega) (by omega) (fun q => ?_) (fun q => by omega)
    have : j = n - 1 := by omega
    subst this
    exact kk Nr' h1 h2
  | succ m ih =>
    intro j Nr' hj h1 h2
    have ho : (fdH h k fed pl le fi N La Ns C St Nr' (cornS n S).length).2 76 = mob k fed pl le fi (nI (cornM n S).length) := by rw [eM]; rfl
    repeat (refine R_s kC9 rfl rfl ?_)
    refine R_get kC9 rfl (h := fdH h k fed pl le fi N La Ns C St Nr' (cornS n S).length) rfl rfl ?_
    repeat (refine R_s kC9 rfl rfl ?_)
    refine R_ild kC9 rfl (show (fdH h k fed pl le fi N La Ns C St Nr' (cornS n S).length).2 77 = ints 106 G from hg) (k := 0) rfl (by decide) (by decide) ?_
    rw [h0]
    repeat (refine R_s kC9 rfl rfl ?_)
    refine R_ge kC9 rfl rfl (pk_sub (by omega)) (by omega) (by omega) (fun q => by omega) (fun q => ?_)
    repeat (refine R_s kC9 rfl rfl ?_)
    refine R_get kC9 rfl (ho) rfl ?_
    iterate 5 (refine R_s kC9 rfl rfl ?_)
    refine (show R (d + 2) 201 102 _ [.int (nI 4 * nI c + nI j), .ref 87] _ Q from ?_)
    rw [pk_mul, nI_add]
    repeat (refine R_s kC9 rfl rfl ?_)
    have hcl := sp_MO_flipOf (h := fdH h k fed pl le fi N La Ns C St Nr' (cornS n S).length) d (L := cornM n S) (by omega) ho (C := C) rfl (fun i z hz => by
      unfold cornM at hz
      rw [List.getElem?_map] at hz
      cases hq : (cornS n S)[i]? with
      | none => rw [hq] at hz; cases hz
      | some y =>
        rw [hq] at hz
        have e := hC i y hq
        cases hz
        exact e) (c := c) (i := j) (s := ((cornS n S).getD c []).getD j 0) (by omega) (by omega) (by rw [eMc]; exact nth_chM hok.2.2 (by omega))
    rw [eMc] at hcl
    refine R_cv kC9 rfl rfl rfl rfl ho (by decide) hcl ?_
    refine R_ist kC9 rfl (h := fdH h k fed pl le fi N La Ns C St Nr' (cornS n S).length) rfl (by decide) (k := 4 * c + j) rfl (by omega) (by decide) ?_
    rw [fdH_Nr]
    repeat (refine R_s kC9 rfl rfl ?_)
    refine R_g kC9 rfl ?_
    refine (show R (d + 2) 201 87 [some (.ref 76), some (.int (nI c)), some (.int (nI j + nI 1))] [] (fdH h k fed pl le fi N La Ns C St (upd Nr' (4 * c + j) (optI (nearR n S c j))) (cornS n S).length) Q from ?_)
    rw [nI_add]
    refine ih (j + 1) _ (by omega) (fun q hq => ?_) (fun q hq => by rw [pk_un (by omega)]; exact h2 q hq)
    by_cases e : q = j
    · subst e; rw [pk_us]
    · rw [pk_un (by omega)]; exact h1 q (by omega)
theorem lp_fdN (d : Nat) (Q : Option Value → AH → Prop) (hg : h.2 77 = ints 106 G) (hn : n ≤ 5) (hn2 : 2 ≤ n) (h0 : G 0 = nI n) {N La Ns C St : Nat → Int32} (hco : (cornS n S).length ≤ 120) (hC : AtP (PC C) (cornS n S)) (kk : ∀ Nr', (∀ c j, c < (cornS n S).length → j < n - 1 → Nr' (4 * c + j) = optI (nearR n S c j)) → Q none (fdH h k fed pl le fi N La Ns C St Nr' (cornS n S).length)) : ∀ (m c : Nat) (Nr' : Nat → Int32) (w : Option Value), c + m = (cornS n S).length → (∀ c' j, c' < c → j < n - 1 → Nr' (4 * c' + j) = optI (nearR n S c' j)) → R (d + 2) 201 81 [some (.ref 76), some (.int (nI c)), w] [] (fdH h k fed pl le fi N La Ns C St Nr' (cornS n S).length) Q := by
  have kC9 := co_MO_finds
  intro m
  induction m with
  | zero =>
    intro c Nr' w hc h1
    repeat (refine R_s kC9 rfl rfl ?_)
    refine R_get kC9 rfl (h := fdH h k fed pl le fi N La Ns C St Nr' (cornS n S).length) rfl rfl ?_
    refine R_ge kC9 rfl (rfl) (rfl) (by omega) (by omega) (fun hc => ?_) (fun hc => ?_)
    · have : c = (cornS n S).length := by omega
      subst this
      exact R_rv kC9 rfl (kk Nr' h1)
    · omega
  | succ m ih =>
    intro c Nr' w hc h1
    repeat (refine R_s kC9 rfl rfl ?_)
    refine R_get kC9 rfl (h := fdH h k fed pl le fi N La Ns C St Nr' (cornS n S).length) rfl rfl ?_
    refine R_ge kC9 rfl (rfl) (rfl) (by omega) (by omega) (fun hc => ?_) (fun hc => ?_)
    · omega
    · iterate 2 (refine R_s kC9 rfl rfl ?_)
      refine lp_fdK (S := S) d Q hg hn hn2 h0 hco hC (c := c) (by omega) (Nr := Nr') (fun Nr2 a1 a2 => ?_) (n - 1) 0 Nr' (by omega) (fun q hq => by omega) (fun q _ => rfl)
      repeat (refine R_s kC9 rfl rfl ?_)
      refine R_g kC9 rfl ?_
      refine (show R (d + 2) 201 81 [some (.ref 76), some (.int (nI c + nI 1)), some (.int (nI (n - 1)))] [] (fdH h k fed pl le fi N La Ns C St Nr2 (cornS n S).length) Q from ?_)
      rw [nI_add]
      refine ih (c + 1) Nr2 _ (by omega) (fun c' j hc' hj => ?_)
      by_cases e : c' = c
      · subst e; exact a1 j hj
      · rw [a2 _ (by omega)]; exact h1 c' j (by omega) hj
/-- what is kept of the corners is of this family -/
def CaOK (n : Nat) (S : Int32) (La Ns C St Nr : Nat → Int32) (co : Nat) : Prop := (La 0 = nI n ∧ ∀ s, s < 32 → La (1 + s) = b2i (bt S s)) ∧ (∀ k, k < 5 → Ns k = nI (lenN (allN n S) k)) ∧ co = (cornS n S).length ∧ AtP (PC C) (cornS n S) ∧ AtP (PS n S St) (cornS n S) ∧ ∀ c j, c < (cornS n S).length → j < n - 1 → Nr (4 * c + j) = optI (nearR n S c j)
def CaI (La Ns C St Nr : Nat → Int32) (co : Nat) : Prop := La 0 = nI 0 ∨ ∃ n S, n ≤ 5 ∧ CaOK n S La Ns C St Nr co
theorem sp_MO_finds (d : Nat) {N La Ns C St Nr : Nat → Int32} {co : Nat} (ho : h.2 76 = mob k fed pl le fi (nI co)) (hg : h.2 77 = ints 106 G) (h80 : h.2 80 = ints 5 N) (h83 : h.2 83 = ints 33 La) (h84 : h.2 84 = ints 5 Ns) (h85 : h.2 85 = ints 120 C) (h86 : h.2 86 = ints 600 St) (h87 : h.2 87 = ints 480 Nr) (hn : n ≤ 5) (hn2 : 2 ≤ n) (h0 : G 0 = nI n) (hS : ∀ s, s < 32 → G (1 + s) = b2i (bt S s)) (hb : (corL n (allN n S)).length ≤ 120) (hI : CaI La Ns C St Nr co) : ∃ z : (Nat → Int32) × (Nat → Int32) × (Nat → Int32) × (Nat → Int32) × (Nat → Int32) × (Nat → Int32) × Nat, CaOK n S z.2.1 z.2.2.1 z.2.2.2.1 z.2.2.2.2.1 z.2.2.2.2.2.1 z.2.2.2.2.2.2 ∧ Cl (d + 7) 201 [.ref 76] h none (fdH h k fed pl le fi z.1 z.2.1 z.2.2.1 z.2.2.2.1 z.2.2.2.2.1 z.2.2.2.2.2.1 z.2.2.2.2.2.2) := by
  have kC9 := co_MO_finds
  refine Cl_ex (f := fun _ => none) (g := fun (z : (Nat → Int32) × (Nat → Int32) × (Nat → Int32) × (Nat → Int32) × (Nat → Int32) × (Nat → Int32) × Nat) => fdH h k fed pl le fi z.1 z.2.1 z.2.2.1 z.2.2.2.1 z.2.2.2.2.1 z.2.2.2.2.2.1 z.2.2.2.2.2.2) kC9 rfl rfl ?_
  obtain ⟨La2, hLa2, hcl⟩ := sp_MO_isLast (d + 6) ho hg h83
  have hLn : La2 0 = nI n ∧ ∀ s, s < 32 → La2 (1 + s) = b2i (bt S s) := ⟨by rw [hLa2 0 (by omega)]; exact h0, fun s hs => by rw [hLa2 _ (by omega)]; exact hS s hs⟩
  have hself := fdH_self ho h80 h83 h84 h85 h86 h87
  have e1 : upH h 83 (ints 33 La2) = fdH h k fed pl le fi N La2 Ns C St Nr co := by
    rw [← fdH_La (La := La) La2, hself]
  rw [e1] at hcl
  repeat (refine R_s kC9 rfl rfl ?_)
  refine R_cv kC9 rfl rfl rfl rfl ho (by decide) hcl ?_
  refine ZB_eq kC9 rfl (fun q => ?_) (fun q => ?_)
  · repeat (refine R_s kC9 rfl rfl ?_)
    refine R_put kC9 rfl (h := fdH h k fed pl le fi N La2 Ns C St Nr co) rfl (by decide) (Nat.le_of_ble_eq_true rfl) rfl ?_
    refine (show R (d + 7) 201 7 _ [] (upH (fdH h k fed pl le fi N La2 Ns C St Nr co) 76 (mob k fed pl le fi (nI 0))) _ from ?_)
    rw [fdH_co 0]
    iterate 2 (refine R_s kC9 rfl rfl ?_)
    refine lp_fd0 (d + 7) _ (fun Ns' hNs' => ?_) 5 0 Ns (by omega) (fun q hq => by omega)
    obtain ⟨⟨N3, Ns3, C3, co3⟩, hA, hcl2⟩ := sp_MO_grows (h := bsH h La2 St Nr) (k := k) (fed := fed) (pl := pl) (le := le) (fi := fi) (N := N) (C := C) d (show (bsH h La2 St Nr).2 77 = ints 106 G from hg) hn hn2 h0 hS hNs' hb
    dsimp only at hA hcl2
    repeat (refine R_s kC9 rfl rfl ?_)
    refine R_cv kC9 rfl rfl rfl rfl (h := fdH h k fed pl le fi N La2 Ns' C St Nr 0) rfl (by decide) hcl2 ?_
    iterate 2 (refine R_s kC9 rfl rfl ?_)
    have ecl := cornS_len n S
    have eco : co3 = (cornS n S).length := by rw [ecl]; exact hA.2.1
    subst eco
    refine lp_fdO (S := S) (d + 4) _ hg hn (by omega) h0 hS (L0 := corL n (allN n S)) (by omega) (fun C' St' w q1 q2 => ?_) (corL n (allN n S)) [] C3 St none (by rw [ecl]; exact Nat.zero_add _) rfl hA.2.2 (fun i x hx => by simp at hx)
    iterate 2 (refine R_s kC9 rfl rfl ?_)
    refine lp_fdN (S := S) (d + 5) _ hg hn hn2 h0 (by omega) q1 (fun Nr' q3 => ?_) (cornS n S).length 0 Nr w (by omega) (fun c' j hc' => by omega)
    exact ⟨(N3, La2, Ns3, C', St', Nr', (cornS n S).length), ⟨hLn, hA.1, rfl, q1, q2, q3⟩, rfl, rfl⟩
  · have hall := pb_true.mp q
    refine R_rv kC9 rfl ⟨(N, La2, Ns, C, St, Nr, co), ?_, rfl, rfl⟩
    have hl0 := hall 0 (by omega)
    rcases hI with hI | ⟨n', S', hn', hI⟩
    · rw [hI, h0] at hl0
      have := (nI_eq (by omega) (by omega)).mp hl0
      omega
    · have en : n' = n := by
        have := hI.1.1
        rw [hl0, h0] at this
        exact ((nI_eq (by omega) (by omega)).mp this).symm
      have eS : S' = S := by
        apply b_ext
        intro s hs
        have a1 := hI.1.2 s hs
        rw [hall (1 + s) (by omega), hS s hs] at a1
        cases x1 : bt S s <;> cases x2 : bt S' s <;> rw [x1, x2] at a1 <;> first | rfl | (exact absurd a1 (by decide))
      subst en; subst eS
      exact ⟨hLn, hI.2⟩
end
