/-! THE REFERENCE, 17: looked, lines, chosen, image, undo, count -/
/-- what the rows of a set-up hold -/
def RowsIn (U : US) : Prop := (∀ s ∈ U.2.2.2.1, 1 ≤ s ∧ s < 32) ∧ (∀ x ∈ U.2.2.2.2.1, ∃ j m, j ≤ 4 ∧ m ≤ 999 ∧ x = (nI j, nI m)) ∧ (∀ x ∈ U.2.2.2.2.2.1, ∃ j m, ((j < 2 ∧ 1 ≤ m ∧ m < 32) ∨ (j = 2 ∧ m ≤ 6) ∨ (j = 3 ∧ m ≤ 99)) ∧ x = (nI j, nI m)) ∧ ∀ x ∈ U.2.2.2.2.2.2, ∃ s, 1 ≤ s ∧ s < 32 ∧ x.1 = nI s ∧ (x.2 = nI 0 ∨ x.2 = nI 1)
def lkF (S : Int32) : List (Int32 × Int32) → Nat → Int32
  | [], _ => -5
  | x :: l, r => if b2i (bt S x.1.toNatClampNeg) = x.2 then lkF S l (r + 1) else nI r
theorem lkF_cons (S : Int32) (x : Int32 × Int32) (l : List (Int32 × Int32)) (r : Nat) : lkF S (x :: l) r = if b2i (bt S x.1.toNatClampNeg) = x.2 then lkF S l (r + 1) else nI r := rfl
def lineN (Lm : Int32) : Nat := cnt (fun q => decide (q / 5 < q % 5) && bt Lm q) 25
def chM (ch : List Nat) : Int32 := maskOf (fun s => decide (s ∈ ch))
def chosenR (ch : List Nat) (v : Int32) : Int32 := if v < 0 then -1 else (match ch[v.toNatClampNeg]? with | some x => nI x | none => -5)
theorem GU.congr {U : US} {G G' : Nat → Int32} (h : GU U G) (hr : RowsOK U) (hq : ∀ q, q < 106 → G' q = G q) : GU U G' :=
  h.row hr rfl rfl rfl rfl (fun q hq2 => hq q (by omega)) (h.2.2.2.2.1.congr4 hr.2.1 (fun q q1 q2 => hq q (by omega))) (h.2.2.2.2.2.1.congr4 hr.2.2.1 (fun q q1 q2 => hq q (by omega))) (h.2.2.2.2.2.2.congr4 hr.2.2.2 (fun q q1 q2 => hq q (by omega)))
section
variable {h : AH} {k fed pl le fi co : Int32} {G : Nat → Int32} {U : US}
theorem lp_looked (d : Nat) (ho : h.2 76 = mob k fed pl le fi co) (hg : h.2 77 = ints 106 G) {S : Int32} (hS : ∀ s, s < 32 → G (1 + s) = b2i (bt S s)) {bk : List (Int32 × Int32)} (hb : rowsG G 89 bk) (hl : bk.length ≤ 8) (hin : ∀ x ∈ bk, ∃ s, 1 ≤ s ∧ s < 32 ∧ x.1 = nI s ∧ (x.2 = nI 0 ∨ x.2 = nI 1)) : ∀ (m i : Nat), i + m = bk.length → R d 236 2 [some (.ref 76), some (.int (nI i))] [] h (fun r2 h2 => r2 = some (.int (lkF S (bk.drop i) i)) ∧ h2 = h) := by
  have kC9 := co_MO_looked
  intro m
  induction m with
  | zero =>
    intro i hi
    rw [List.drop_eq_nil_of_le (by omega)]
    repeat (refine R_s kC9 rfl rfl ?_)
    refine R_get kC9 rfl (ho) rfl ?_
    repeat (refine R_s kC9 rfl rfl ?_)
    refine R_ild kC9 rfl (hg) (rfl) (by decide) (by decide) ?_
    rw [hb.1]
    refine R_ge kC9 rfl (rfl) (rfl) (by omega) (by omega) (fun hc => ?_) (fun hc => ?_)
    · repeat (refine R_s kC9 rfl rfl ?_)
      exact R_ri kC9 rfl ⟨rfl, rfl⟩
    · omega
  | succ m ih =>
    intro i hi
    repeat (refine R_s kC9 rfl rfl ?_)
    refine R_get kC9 rfl (ho) rfl ?_
    repeat (refine R_s kC9 rfl rfl ?_)
    refine R_ild kC9 rfl (hg) (rfl) (by decide) (by decide) ?_
    rw [hb.1]
    refine R_ge kC9 rfl (rfl) (rfl) (by omega) (by omega) (fun hc => ?_) (fun hc => ?_)
    · omega
    · obtain ⟨x, hx⟩ : ∃ x, bk[i]? = some x := ⟨bk[i], List.getElem?_eq_getElem hc⟩
      obtain ⟨s, s1, s2, s3, s4⟩ := hin x (List.mem_of_getElem? hx)
      have hh := hb.2 i x hx
      rw [drop_cons hx, lkF_cons, s3, nI_clamp (by omega)]
      repeat (refine R_s kC9 rfl rfl ?_)
      refine R_get kC9 rfl (ho) rfl ?_
      repeat (refine R_s kC9 rfl rfl ?_)
      refine R_get kC9 rfl (ho) rfl ?_
      repeat (refine R_s kC9 rfl rfl ?_)
      refine R_ild kC9 rfl hg (k := 89 + 1 + 2 * i) (show nI 90 + nI 2 * nI i = _ by rw [pk_mul, nI_add]) (by omega) (by decide) ?_
      rw [hh.1, s3]
      repeat (refine R_s kC9 rfl rfl ?_)
      refine R_ild kC9 rfl (hg) (nI_add 1 s) (by omega) (by decide) ?_
      rw [hS s s2]
      repeat (refine R_s kC9 rfl rfl ?_)
      refine R_get kC9 rfl (ho) rfl ?_
      repeat (refine R_s kC9 rfl rfl ?_)
      refine R_ild kC9 rfl hg (k := 89 + 2 + 2 * i) (show nI 91 + nI 2 * nI i = _ by rw [pk_mul, nI_add]) (by omega) (by decide) ?_
      rw [hh.2]
      refine Rr_eq kC9 rfl (fun hc => ?_) (fun hc => ?_)
      · rw [if_pos hc]
        repeat (refine R_s kC9 rfl rfl ?_)
        refine R_g kC9 rfl ?_
        refine (show R d 236 2 [some (.ref 76), some (.int (nI i + nI 1))] [] h _ from ?_)
        rw [nI_add]
        exact ih (i + 1) (by omega)
      · rw [if_neg hc]
        repeat (refine R_s kC9 rfl rfl ?_)
        exact R_ri kC9 rfl ⟨rfl, rfl⟩
theorem sp_MO_looked (d : Nat) (ho : h.2 76 = mob k fed pl le fi co) (hg : h.2 77 = ints 106 G) (hU : GU U G) (hr : RowsOK U) (hi : RowsIn U) : Cl d 236 [.ref 76] h (some (.int (lkF U.2.1 U.2.2.2.2.2.2 0))) h := by
  have kC9 := co_MO_looked
  refine Cl_of kC9 rfl rfl ?_
  iterate 2 (refine R_s kC9 rfl rfl ?_)
  exact lp_looked d ho hg hU.2.1 hU.2.2.2.2.2.2 hr.2.2.2 hi.2.2.2 _ 0 (Nat.zero_add _)
theorem lp_lines (d : Nat) (ho : h.2 76 = mob k fed pl le fi co) (hg : h.2 77 = ints 106 G) {Lm : Int32} (hL : ∀ q, q < 25 → G (33 + q) = b2i (decide (q / 5 < q % 5) && bt Lm q)) : ∀ (m s : Nat), s + m = 25 → R d 208 4 [some (.ref 76), some (.int (nI (cnt (fun q => decide (q / 5 < q % 5) && bt Lm q) s))), some (.int (nI s))] [] h (fun r2 h2 => r2 = some (.int (nI (lineN Lm))) ∧ h2 = h) := by
  have kC9 := co_MO_lines
  intro m
  induction m with
  | zero =>
    intro s hs
    have : s = 25 := by omega
    subst this
    repeat (refine R_s kC9 rfl rfl ?_)
    refine R_ge kC9 rfl (rfl) (rfl) (by omega) (by omega) (fun hc => ?_) (fun hc => ?_)
    · repeat (refine R_s kC9 rfl rfl ?_)
      exact R_ri kC9 rfl ⟨rfl, rfl⟩
    · omega
  | succ m ih =>
    intro s hs
    repeat (refine R_s kC9 rfl rfl ?_)
    refine R_ge kC9 rfl (rfl) (rfl) (by omega) (by omega) (fun hc => ?_) (fun hc => ?_)
    · omega
    · repeat (refine R_s kC9 rfl rfl ?_)
      refine R_get kC9 rfl (ho) rfl ?_
      repeat (refine R_s kC9 rfl rfl ?_)
      refine R_ild kC9 rfl (hg) (nI_add 33 s) (by omega) (by decide) ?_
      rw [hL s (by omega), b2i_nI (decide (s / 5 < s % 5) && bt Lm s)]
      repeat (refine R_s kC9 rfl rfl ?_)
      refine R_g kC9 rfl ?_
      refine (show R d 208 4 [some (.ref 76), some (.int (nI (cnt (fun q => decide (q / 5 < q % 5) && bt Lm q) s) + nI (decide (s / 5 < s % 5) && bt Lm s).toNat)), some (.int (nI s + nI 1))] [] h _ from ?_)
      rw [nI_add, nI_add]
      exact ih (s + 1) (by omega)
theorem sp_MO_lines (d : Nat) (ho : h.2 76 = mob k fed pl le fi co) (hg : h.2 77 = ints 106 G) {Lm : Int32} (hL : ∀ q, q < 25 → G (33 + q) = b2i (decide (q / 5 < q % 5) && bt Lm q)) : Cl d 208 [.ref 76] h (some (.int (nI (lineN Lm)))) h := by
  have kC9 := co_MO_lines
  refine Cl_of kC9 rfl rfl ?_
  iterate 4 (refine R_s kC9 rfl rfl ?_)
  exact lp_lines d ho hg hL 25 0 (by omega)
theorem lp_chosenBits (d : Nat) (ho : h.2 76 = mob k fed pl le fi co) (hg : h.2 77 = ints 106 G) {ch : List Nat} (h58 : G 58 = nI ch.length) (hch : ∀ i x, ch[i]? = some x → G (59 + i) = nI x) (hl : ch.length ≤ 4) (h32 : ∀ s ∈ ch, 1 ≤ s ∧ s < 32) : ∀ (m i : Nat), i + m = ch.length → R d 210 4 [some (.ref 76), some (.int (chM (ch.take i))), some (.int (nI i))] [] h (fun r2 h2 => r2 = some (.int (chM ch)) ∧ h2 = h) := by
  have kC9 := co_MO_chosenBits
  intro m
  induction m with
  | zero =>
    intro i hi
    rw [List.take_of_length_le (by omega)]
    repeat (refine R_s kC9 rfl rfl ?_)
    refine R_get kC9 rfl (ho) rfl ?_
    repeat (refine R_s kC9 rfl rfl ?_)
    refine R_ild kC9 rfl (hg) (rfl) (by decide) (by decide) ?_
    rw [h58]
    refine R_ge kC9 rfl (rfl) (rfl) (by omega) (by omega) (fun hc => ?_) (fun hc => ?_)
    · repeat (refine R_s kC9 rfl rfl ?_)
      exact R_ri kC9 rfl ⟨rfl, rfl⟩
    · omega
  | succ m ih =>
    intro i hi
    repeat (refine R_s kC9 rfl rfl ?_)
    refine R_get kC9 rfl (ho) rfl ?_
    repeat (refine R_s kC9 rfl rfl ?_)
    refine R_ild kC9 rfl (hg) (rfl) (by decide) (by decide) ?_
    rw [h58]
    refine R_ge kC9 rfl (rfl) (rfl) (by omega) (by omega) (fun hc => ?_) (fun hc => ?_)
    · omega
    · obtain ⟨x, hx⟩ : ∃ x, ch[i]? = some x := ⟨ch[i], List.getElem?_eq_getElem hc⟩
      have hx32 := h32 x (List.mem_of_getElem? hx)
      repeat (refine R_s kC9 rfl rfl ?_)
      refine R_get kC9 rfl (ho) rfl ?_
      repeat (refine R_s kC9 rfl rfl ?_)
      refine R_ild kC9 rfl (hg) (nI_add 59 i) (by omega) (by decide) ?_
      rw [hch i x hx]
      have e : chM (ch.take i) ||| (nI 1 <<< (nI x &&& 31)) = chM (ch.take (i + 1)) := by
        apply b_ext
        intro j hj
        unfold chM
        rw [b_or, maskOf_bt _ hj, maskOf_bt _ hj, one_bt hx32.2 hj, List.take_succ, hx]
        by_cases q1 : j ∈ ch.take i
        · simp [q1]
        · by_cases q2 : j = x <;> simp [q1, q2]
      repeat (refine R_s kC9 rfl rfl ?_)
      refine R_g kC9 rfl ?_
      refine (show R d 210 4 [some (.ref 76), some (.int (chM (ch.take i) ||| (nI 1 <<< (nI x &&& 31)))), some (.int (nI i + nI 1))] [] h _ from ?_)
      rw [nI_add, e]
      exact ih (i + 1) (by omega)
theorem chM_nil : chM [] = nI 0 := by
  apply b_ext
  intro i hi
  unfold chM
  rw [maskOf_bt _ hi, nI_bt i hi]
  simp
theorem sp_MO_chosenBits (d : Nat) (ho : h.2 76 = mob k fed pl le fi co) (hg : h.2 77 = ints 106 G) {ch : List Nat} (h58 : G 58 = nI ch.length) (hch : ∀ i x, ch[i]? = some x → G (59 + i) = nI x) (hl : ch.length ≤ 4) (h32 : ∀ s ∈ ch, 1 ≤ s ∧ s < 32) : Cl d 210 [.ref 76] h (some (.int (chM ch))) h := by
  have kC9 := co_MO_chosenBits
  refine Cl_of kC9 rfl rfl ?_
  iterate 4 (refine R_s kC9 rfl rfl ?_)
  refine (show R d 210 4 [some (.ref 76), some (.int (nI 0)), some (.int (nI 0))] [] h _ from ?_)
  rw [show ([some (.ref 76), some (.int (nI 0)), some (.int (nI 0))] : ALs) = [some (.ref 76), some (.int (chM (ch.take 0))), some (.int (nI 0))] by rw [List.take_zero, chM_nil]]
  exact lp_chosenBits d ho hg h58 hch hl h32 _ 0 (Nat.zero_add _)
theorem sp_MO_chosen (d : Nat) (ho : h.2 76 = mob k fed pl le fi co) (hg : h.2 77 = ints 106 G) {ch : List Nat} (h58 : G 58 = nI ch.length) (hch : ∀ i x, ch[i]? = some x → G (59 + i) = nI x) (hl : ch.length ≤ 4) (v : Int32) : Cl d 212 [.ref 76, .int v] h (some (.int (chosenR ch v))) h := by
  have kC9 := co_MO_chosen
  refine Cl_of kC9 rfl rfl ?_
  unfold chosenR
  repeat (refine R_s kC9 rfl rfl ?_)
  refine Zr_ge kC9 rfl (fun hc => ?_) (fun hc => ?_)
  · have h0 : ¬ v < 0 := by
      rw [Int32.lt_iff_toInt_lt]
      rw [Int32.le_iff_toInt_le] at hc
      omega
    rw [if_neg h0]
    obtain ⟨i, hi, rfl⟩ := nI_of h0
    rw [nI_clamp hi]
    repeat (refine R_s kC9 rfl rfl ?_)
    refine R_get kC9 rfl (ho) rfl ?_
    repeat (refine R_s kC9 rfl rfl ?_)
    refine R_ild kC9 rfl (hg) (rfl) (by decide) (by decide) ?_
    rw [h58]
    refine R_ge kC9 rfl (rfl) (rfl) (by omega) (by omega) (fun hc => ?_) (fun hc => ?_)
    · rw [List.getElem?_eq_none (by omega)]
      repeat (refine R_s kC9 rfl rfl ?_)
      exact R_ri kC9 rfl ⟨rfl, rfl⟩
    · obtain ⟨x, hx⟩ : ∃ x, ch[i]? = some x := ⟨ch[i], List.getElem?_eq_getElem hc⟩
      rw [hx]
      repeat (refine R_s kC9 rfl rfl ?_)
      refine R_get kC9 rfl (ho) rfl ?_
      repeat (refine R_s kC9 rfl rfl ?_)
      refine R_ild kC9 rfl (hg) (nI_add 59 i) (by omega) (by decide) ?_
      rw [hch i x hx]
      refine R_g kC9 rfl ?_
      exact R_ri kC9 rfl ⟨rfl, rfl⟩
  · have h0 : v < 0 := by
      rw [Int32.lt_iff_toInt_lt]
      rw [Int32.le_iff_toInt_le] at hc
      omega
    rw [if_pos h0]
    repeat (refine R_s kC9 rfl rfl ?_)
    refine R_g kC9 rfl ?_
    exact R_ri kC9 rfl ⟨rfl, rfl⟩
theorem lp_copies (d : Nat) {F : Nat → Int32} {a b : Nat} (hab : a ≠ b) (hb3 : 3 ≤ b) (ha : h.2 a = ints 106 F) : ∀ (m i : Nat) (T : Nat → Int32), i + m = 106 → (∀ q, q < i → T q = F q) → R d 153 2 [some (.ref a), some (.ref b), some (.int (nI i))] [] (upH h b (ints 106 T)) (fun r2 h2 => ∃ T', (∀ q, q < 106 → T' q = F q) ∧ r2 = none ∧ h2 = upH h b (ints 106 T')) := by
  have kC9 := co_MO_copies
  intro m
  induction m with
  | zero =>
    intro i T hi hT
    repeat (refine R_s kC9 rfl rfl ?_)
    refine R_ge kC9 rfl (rfl) (rfl) (by omega) (by omega) (fun hc => ?_) (fun hc => ?_)
    · exact R_rv kC9 rfl ⟨T, fun q hq => hT q (by omega), rfl, rfl⟩
    · omega
  | succ m ih =>
    intro i T hi hT
    repeat (refine R_s kC9 rfl rfl ?_)
    refine R_ge kC9 rfl (rfl) (rfl) (by omega) (by omega) (fun hc => ?_) (fun hc => ?_)
    · omega
    · repeat (refine R_s kC9 rfl rfl ?_)
      refine R_ild kC9 rfl (h := upH h b (ints 106 T)) ((upH_ne h _ hab).trans ha) (k := i) rfl (by omega) (by decide) ?_
      refine R_ist kC9 rfl (h := upH h b (ints 106 T)) (upH_at h b _) hb3 (k := i) rfl (by omega) (by decide) ?_
      rw [upH_upH]
      repeat (refine R_s kC9 rfl rfl ?_)
      refine R_g kC9 rfl ?_
      refine (show R d 153 2 [some (.ref a), some (.ref b), some (.int (nI i + nI 1))] [] (upH h b (ints 106 (upd T i (F i)))) _ from ?_)
      rw [nI_add]
      refine ih (i + 1) _ (by omega) (fun q hq => ?_)
      by_cases e : q = i
      · subst e; rw [pk_us]
      · rw [pk_un e]; exact hT q (by omega)
theorem sp_MO_copies (d : Nat) {F T : Nat → Int32} {a b : Nat} (hab : a ≠ b) (hb3 : 3 ≤ b) (ha : h.2 a = ints 106 F) (hb : h.2 b = ints 106 T) : ∃ T', (∀ q, q < 106 → T' q = F q) ∧ Cl d 153 [.ref a, .ref b] h none (upH h b (ints 106 T')) := by
  have kC9 := co_MO_copies
  refine Cl_ex (f := fun _ => none) (g := fun T' => upH h b (ints 106 T')) kC9 rfl rfl ?_
  iterate 2 (refine R_s kC9 rfl rfl ?_)
  have := lp_copies (h := h) d hab hb3 ha 106 0 T (by omega) (fun q hq => by omega)
  rw [upH_self hb] at this
  exact this
theorem sp_MO_image (d : Nat) {K : Nat → Int32} (ho : h.2 76 = mob k fed pl le fi co) (hg : h.2 77 = ints 106 G) (hk : h.2 78 = ints 106 K) (hU : GU U G) (hr : RowsOK U) (hb0 : bt U.2.1 0 = false) : ∃ K', GU U K' ∧ Cl (d + 1) 240 [.ref 76] h (some (.int (nI (els U.2.1).length))) (upH (upH h 78 (ints 106 K')) 76 (mob (nI 1) fed pl le fi co)) := by
  have kC9 := co_MO_image
  obtain ⟨K', hK, hcl⟩ := sp_MO_copies (h := h) d (a := 77) (b := 78) (by decide) (by decide) hg hk
  refine ⟨K', hU.congr hr hK, ?_⟩
  refine Cl_of kC9 rfl rfl ?_
  repeat (refine R_s kC9 rfl rfl ?_)
  refine R_get kC9 rfl (ho) rfl ?_
  repeat (refine R_s kC9 rfl rfl ?_)
  refine R_get kC9 rfl (ho) rfl ?_
  refine R_cs kC9 rfl rfl rfl rfl hcl ?_
  repeat (refine R_s kC9 rfl rfl ?_)
  refine R_put kC9 rfl (show (upH h 78 (ints 106 K')).2 76 = mob k fed pl le fi co from ho) (by decide) (Nat.le_of_ble_eq_true rfl) rfl ?_
  repeat (refine R_s kC9 rfl rfl ?_)
  refine R_cv kC9 rfl rfl rfl rfl (h := upH (upH h 78 (ints 106 K')) 76 (mob (nI 1) fed pl le fi co)) rfl (by decide) (sp_MO_sets d rfl (show (upH (upH h 78 (ints 106 K')) 76 (mob (nI 1) fed pl le fi co)).2 77 = ints 106 G from hg) hU.2.1 hb0) ?_
  exact R_ri kC9 rfl ⟨rfl, rfl⟩
theorem sp_MO_undo1 (d : Nat) {K : Nat → Int32} (ho : h.2 76 = mob (nI 1) fed pl le fi co) (hg : h.2 77 = ints 106 G) (hk : h.2 78 = ints 106 K) (hU : GU U K) (hr : RowsOK U) (hb0 : bt U.2.1 0 = false) : ∃ G', GU U G' ∧ Cl (d + 1) 241 [.ref 76] h (some (.int (nI (els U.2.1).length))) (upH h 77 (ints 106 G')) := by
  have kC9 := co_MO_undo
  obtain ⟨G', hG, hcl⟩ := sp_MO_copies (h := h) d (a := 78) (b := 77) (by decide) (by decide) hk hg
  have hU' := hU.congr hr hG
  refine ⟨G', hU', ?_⟩
  refine Cl_of kC9 rfl rfl ?_
  repeat (refine R_s kC9 rfl rfl ?_)
  refine R_get kC9 rfl (ho) rfl ?_
  refine Z_ne kC9 rfl (u := 1) rfl (by decide) (fun _ => ?_) (fun q => absurd q (by decide))
  repeat (refine R_s kC9 rfl rfl ?_)
  refine R_get kC9 rfl (ho) rfl ?_
  repeat (refine R_s kC9 rfl rfl ?_)
  refine R_get kC9 rfl (ho) rfl ?_
  refine R_cs kC9 rfl rfl rfl rfl hcl ?_
  repeat (refine R_s kC9 rfl rfl ?_)
  refine R_cv kC9 rfl rfl rfl rfl (h := upH h 77 (ints 106 G')) (show (upH h 77 (ints 106 G')).2 76 = mob (nI 1) fed pl le fi co from ho) (by decide) (sp_MO_sets d (show (upH h 77 (ints 106 G')).2 76 = mob (nI 1) fed pl le fi co from ho) rfl hU'.2.1 hb0) ?_
  exact R_ri kC9 rfl ⟨rfl, rfl⟩
theorem sp_MO_undo0 (d : Nat) (ho : h.2 76 = mob (nI 0) fed pl le fi co) : Cl d 241 [.ref 76] h (some (.int (-3))) h := by
  have kC9 := co_MO_undo
  refine Cl_of kC9 rfl rfl ?_
  repeat (refine R_s kC9 rfl rfl ?_)
  refine R_get kC9 rfl (ho) rfl ?_
  refine Z_ne kC9 rfl (u := 0) rfl (by decide) (fun q => absurd rfl q) (fun _ => ?_)
  repeat (refine R_s kC9 rfl rfl ?_)
  exact R_ri kC9 rfl ⟨rfl, rfl⟩
def countR (U : US) (t : Nat) (v : Int32) : Int32 := if v = 0 then nI U.2.2.2.2.1.length else if v = 1 then nI U.2.2.2.2.2.1.length else if v = 2 then nI U.2.2.2.2.2.2.length else if v = 3 then nI t else -2
theorem sp_MO_count (d : Nat) {t : Nat} (ho : h.2 76 = mob k (nI t) pl le fi co) (hg : h.2 77 = ints 106 G) (hU : GU U G) (v : Int32) : Cl d 242 [.ref 76, .int v] h (some (.int (countR U t v))) h := by
  have kC9 := co_MO_count
  refine Cl_of kC9 rfl rfl ?_
  unfold countR
  repeat (refine R_s kC9 rfl rfl ?_)
  rcases sw4 (v := v) (by omega) with e | e | e | e | e
  · subst e
    refine R_sw kC9 rfl (t := 2) rfl ?_
    repeat (refine R_s kC9 rfl rfl ?_)
    refine R_get kC9 rfl (ho) rfl ?_
    repeat (refine R_s kC9 rfl rfl ?_)
    refine R_ild kC9 rfl (hg) (rfl) (by decide) (by decide) ?_
    rw [hU.2.2.2.2.1.1]
    exact R_ri kC9 rfl ⟨rfl, rfl⟩
  · subst e
    refine R_sw kC9 rfl (t := 7) rfl ?_
    repeat (refine R_s kC9 rfl rfl ?_)
    refine R_get kC9 rfl (ho) rfl ?_
    repeat (refine R_s kC9 rfl rfl ?_)
    refine R_ild kC9 rfl (hg) (rfl) (by decide) (by decide) ?_
    rw [hU.2.2.2.2.2.1.1]
    exact R_ri kC9 rfl ⟨rfl, rfl⟩
  · subst e
    refine R_sw kC9 rfl (t := 12) rfl ?_
    repeat (refine R_s kC9 rfl rfl ?_)
    refine R_get kC9 rfl (ho) rfl ?_
    repeat (refine R_s kC9 rfl rfl ?_)
    refine R_ild kC9 rfl (hg) (rfl) (by decide) (by decide) ?_
    rw [hU.2.2.2.2.2.2.1]
    exact R_ri kC9 rfl ⟨rfl, rfl⟩
  · subst e
    refine R_sw kC9 rfl (t := 17) rfl ?_
    repeat (refine R_s kC9 rfl rfl ?_)
    refine R_get kC9 rfl (ho) rfl ?_
    exact R_ri kC9 rfl ⟨rfl, rfl⟩
  · refine R_sw kC9 rfl (t := 20) (by rw [if_pos (by omega)]; rfl) ?_
    repeat (refine R_s kC9 rfl rfl ?_)
    rw [if_neg e.2.1, if_neg e.2.2.1, if_neg e.2.2.2.1, if_neg e.2.2.2.2]
    exact R_ri kC9 rfl ⟨rfl, rfl⟩
end
