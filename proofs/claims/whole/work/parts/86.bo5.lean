/-! THE CLASS, 16: Body: insert, arrange -/
theorem insR_app {n : Nat} {S : Int32} {x : List Nat} : ∀ (B A : List (List Nat)), (∀ z ∈ B, pkN (rowF n S x) n < pkN (rowF n S z) n) → insR n S x (B ++ A) = B ++ insR n S x A
  | [], A, _ => rfl
  | z :: B, A, h => by
    rw [List.cons_append, insR_cons, if_pos ((ahL_pk n S x z).mpr (h z List.mem_cons_self)), insR_app B A (fun u hu => h u (List.mem_cons_of_mem _ hu))]
    rfl
theorem insR_stop {n : Nat} {S : Int32} {x z : List Nat} {A : List (List Nat)} (h : pkN (rowF n S z) n ≤ pkN (rowF n S x) n) : insR n S x (z :: A) = x :: z :: A := by
  rw [insR_cons, if_neg (fun q => by rw [ahL_pk] at q; omega)]
theorem srtR_snoc {n : Nat} {S : Int32} (x : List Nat) : ∀ (l acc : List (List Nat)), srtR n S (l ++ [x]) acc = insR n S x (srtR n S l acc)
  | [], acc => rfl
  | y :: l, acc => by rw [List.cons_append, srtR_cons, srtR_cons, srtR_snoc x l]
theorem pk_31 (n : Nat) (hn : n ≤ 5) (S : Int32) (x : List Nat) : pkN (rowF n S x) n < 2 ^ 31 := by
  have hl := pkN_lt (rowF_lt n S x) n
  have hl2 : 32 ^ n ≤ 32 ^ 5 := Nat.pow_le_pow_right (by omega) hn
  omega
def SR (n : Nat) (S : Int32) (b : BoS) (k : Nat) (L : List (List Nat)) : Prop := ∀ i x, L[i]? = some x → b.Nr (k + i) = chM x ∧ b.Pl (k + i) = nI (pkN (rowF n S x) n)
section
variable {h h' : AH} {o fam n : Nat} {S Lm : Int32} {b : BoS}
theorem lc_insert (d : Nat) (hn : n ≤ 5) (x : List Nat) {c : Nat} (hc : c < 120) : ∀ (i : Nat) (A B : List (List Nat)) (h2 : AH) (b2 : BoS), A.length = i → i + B.length = c → frI o (o + 13) h h2 → BX h2 o fam n S Lm b2 → (∃ F G, b2 = (b.sNr F).sPl G) → SR n S b2 0 A → SR n S b2 (i + 1) B → (∀ z ∈ B, pkN (rowF n S x) n < pkN (rowF n S z) n) → (∀ q, c < q → b2.Nr q = b.Nr q) → R d 71 4 [some (.ref o), some (.int (nI c)), some (.int (chM x)), some (.int (nI (pkN (rowF n S x) n))), some (.int (nI i)), some (.int (nI i))] [] h2 (fun r2 h3 => r2 = none ∧ ∃ b3, frI o (o + 13) h h3 ∧ BX h3 o fam n S Lm b3 ∧ (∃ F G, b3 = (b.sNr F).sPl G) ∧ SR n S b3 0 (insR n S x (A ++ B).reverse).reverse ∧ ∀ q, c < q → b3.Nr q = b.Nr q) := by
  have kC9 := co_BO_insert
  intro i
  have fin : ∀ (A B : List (List Nat)) (i : Nat) (h2 : AH) (b2 : BoS) (w : Int32), A.length = i → i + B.length = c → frI o (o + 13) h h2 → BX h2 o fam n S Lm b2 → (∃ F G, b2 = (b.sNr F).sPl G) → SR n S b2 0 A → SR n S b2 (i + 1) B → (∀ z ∈ B, pkN (rowF n S x) n < pkN (rowF n S z) n) → (∀ q, c < q → b2.Nr q = b.Nr q) → insR n S x A.reverse = x :: A.reverse → R d 71 40 [some (.ref o), some (.int (nI c)), some (.int (chM x)), some (.int (nI (pkN (rowF n S x) n))), some (.int (nI i)), some (.int w)] [] h2 (fun r2 h3 => r2 = none ∧ ∃ b3, frI o (o + 13) h h3 ∧ BX h3 o fam n S Lm b3 ∧ (∃ F G, b3 = (b.sNr F).sPl G) ∧ SR n S b3 0 (insR n S x (A ++ B).reverse).reverse ∧ ∀ q, c < q → b3.Nr q = b.Nr q) := by
    intro A B i h2 b2 w hA hAB hf hB he hSA hSB hgt hq hstop
    have o3 := hB.o3
    repeat (refine R_s kC9 rfl rfl ?_)
    refine R_get kC9 rfl (hB.ob) rfl ?_
    repeat (refine R_s kC9 rfl rfl ?_)
    refine R_ist kC9 rfl hB.pl (by omega) (k := i) rfl (by omega) (by omega) ?_
    have hB1 := hB.upl (upd b2.Pl i (nI (pkN (rowF n S x) n)))
    repeat (refine R_s kC9 rfl rfl ?_)
    refine R_get kC9 rfl (hB1.ob) rfl ?_
    repeat (refine R_s kC9 rfl rfl ?_)
    refine R_ist kC9 rfl hB1.nr (by omega) (k := i) rfl (by omega) (by omega) ?_
    have hB2 := hB1.unr (upd b2.Nr i (chM x))
    obtain ⟨F, G, rfl⟩ := he
    refine R_rv kC9 rfl ⟨rfl, _, (hf.up _ (by omega) (by omega)).up _ (by omega) (by omega), hB2, ⟨_, _, rfl⟩, ?_, fun q hq2 => ?_⟩
    · have e : (insR n S x (A ++ B).reverse).reverse = A ++ x :: B := by
        rw [List.reverse_append, insR_app B.reverse A.reverse (fun z hz => hgt z (List.mem_reverse.mp hz)), hstop]
        simp
      rw [e]
      intro q z hz
      rw [Nat.zero_add]
      show upd F i (chM x) q = chM z ∧ upd G i (nI (pkN (rowF n S x) n)) q = nI (pkN (rowF n S z) n)
      rcases Nat.lt_trichotomy q i with c1 | c1 | c1
      · rw [List.getElem?_append_left (by omega)] at hz
        rw [pk_un (by omega), pk_un (by omega)]
        have := hSA q z hz
        rw [Nat.zero_add] at this
        exact this
      · subst c1
        rw [List.getElem?_append_right (by omega), hA, Nat.sub_self] at hz
        have hz2 : x = z := by simpa using hz
        subst hz2
        rw [pk_us, pk_us]
        exact ⟨rfl, rfl⟩
      · rw [List.getElem?_append_right (by omega), hA, show q - i = (q - i - 1) + 1 by omega, List.getElem?_cons_succ] at hz
        rw [pk_un (by omega), pk_un (by omega)]
        have := hSB (q - i - 1) z hz
        rw [show i + 1 + (q - i - 1) = q by omega] at this
        exact this
    · show upd F i (chM x) q = _
      rw [pk_un (by omega)]
      exact hq q hq2
  induction i with
  | zero =>
    intro A B h2 b2 hA hAB hf hB he hSA hSB hgt hq
    repeat (refine R_s kC9 rfl rfl ?_)
    refine Z_le kC9 rfl (rfl) (by omega) (fun hc => ?_) (fun hc => ?_)
    · have : A = [] := List.length_eq_zero_iff.mp hA
      subst this
      exact fin [] B 0 h2 b2 _ rfl hAB hf hB he hSA hSB hgt hq rfl
    · omega
  | succ i ih =>
    intro A B h2 b2 hA hAB hf hB he hSA hSB hgt hq
    have o3 := hB.o3
    obtain ⟨A', z, rfl⟩ : ∃ A' z, A = A' ++ [z] := by
      have hne : A ≠ [] := fun e => by rw [e] at hA; cases hA
      exact ⟨A.dropLast, A.getLast hne, (List.dropLast_concat_getLast hne).symm⟩
    have hA' : A'.length = i := by rw [List.length_append] at hA; simp at hA; omega
    have hz : (A' ++ [z])[i]? = some z := by rw [List.getElem?_append_right (by omega), hA', Nat.sub_self]; rfl
    obtain ⟨z1, z2⟩ := hSA i z hz
    rw [Nat.zero_add] at z1 z2
    have l1 := pk_31 n hn S x
    have l2 := pk_31 n hn S z
    repeat (refine R_s kC9 rfl rfl ?_)
    refine Z_le kC9 rfl (u := i + 1) rfl (by omega) (fun q => by omega) (fun _ => ?_)
    repeat (refine R_s kC9 rfl rfl ?_)
    refine R_get kC9 rfl (hB.ob) rfl ?_
    repeat (refine R_s kC9 rfl rfl ?_)
    refine R_ild kC9 rfl hB.pl (k := i) (show nI (i + 1) - nI 1 = nI i by rw [pk_sub (by omega)]; rfl) (by omega) (by omega) ?_
    rw [z2]
    repeat (refine R_s kC9 rfl rfl ?_)
    refine R_le kC9 rfl rfl rfl l2 l1 (fun hd => ?_) (fun hd => ?_)
    · refine fin (A' ++ [z]) B (i + 1) h2 b2 _ hA hAB hf hB he hSA hSB hgt hq ?_
      rw [List.reverse_append]
      exact insR_stop hd
    · repeat (refine R_s kC9 rfl rfl ?_)
      refine R_get kC9 rfl (hB.ob) rfl ?_
      repeat (refine R_s kC9 rfl rfl ?_)
      refine R_get kC9 rfl (hB.ob) rfl ?_
      repeat (refine R_s kC9 rfl rfl ?_)
      refine R_ild kC9 rfl hB.pl (k := i) (show nI (i + 1) - nI 1 = nI i by rw [pk_sub (by omega)]; rfl) (by omega) (by omega) ?_
      refine R_ist kC9 rfl hB.pl (by omega) (k := i + 1) rfl (by omega) (by omega) ?_
      have hB1 := hB.upl (upd b2.Pl (i + 1) (b2.Pl i))
      repeat (refine R_s kC9 rfl rfl ?_)
      refine R_get kC9 rfl (hB1.ob) rfl ?_
      repeat (refine R_s kC9 rfl rfl ?_)
      refine R_get kC9 rfl (hB1.ob) rfl ?_
      repeat (refine R_s kC9 rfl rfl ?_)
      refine R_ild kC9 rfl hB1.nr (k := i) (show nI (i + 1) - nI 1 = nI i by rw [pk_sub (by omega)]; rfl) (by omega) (by omega) ?_
      refine R_ist kC9 rfl hB1.nr (by omega) (k := i + 1) rfl (by omega) (by omega) ?_
      have hB2 := hB1.unr (upd b2.Nr (i + 1) (b2.Nr i))
      repeat (refine R_s kC9 rfl rfl ?_)
      refine R_g kC9 rfl ?_
      refine (show R d 71 4 [some (.ref o), some (.int (nI c)), some (.int (chM x)), some (.int (nI (pkN (rowF n S x) n))), some (.int (nI (i + 1) - nI 1)), some (.int (nI (i + 1) + (-1)))] [] _ _ from ?_)
      rw [pk_m1, pk_sub (by omega), show i + 1 - 1 = i by omega]
      obtain ⟨F, G, rfl⟩ := he
      have key := ih A' (z :: B) _ _ hA' (by rw [List.length_cons]; omega) ((hf.up _ (by omega) (by omega)).up _ (by omega) (by omega)) hB2 ⟨_, _, rfl⟩ (fun q u hu => ?_) (fun q u hu => ?_) (fun u hu => ?_) (fun q hq2 => ?_)
      · rw [show A' ++ z :: B = A' ++ [z] ++ B by rw [List.append_assoc]; rfl] at key
        exact key
      · have hql := (List.getElem?_eq_some_iff.mp hu).1
        have := hSA q u (by rw [List.getElem?_append_left hql]; exact hu)
        rw [Nat.zero_add] at this ⊢
        show upd F (i + 1) (F i) q = _ ∧ upd G (i + 1) (G i) q = _
        rw [pk_un (by omega), pk_un (by omega)]
        exact this
      · show upd F (i + 1) (F i) (i + 1 + q) = _ ∧ upd G (i + 1) (G i) (i + 1 + q) = _
        cases q with
        | zero =>
          have : z = u := by simpa using hu
          subst this
          rw [Nat.add_zero, pk_us, pk_us]
          exact ⟨z1, z2⟩
        | succ q =>
          rw [List.getElem?_cons_succ] at hu
          rw [pk_un (by omega), pk_un (by omega)]
          have := hSB q u hu
          rw [show i + 1 + 1 + q = i + 1 + (q + 1) by omega] at this
          exact this
      · rcases List.mem_cons.mp hu with e | e
        · rw [e]; exact hd
        · exact hgt u e
      · show upd F (i + 1) (F i) q = _
        rw [pk_un (by omega)]
        exact hq q hq2
theorem sp_BO_insert (d : Nat) (hn : n ≤ 5) (x : List Nat) {c : Nat} (hc : c < 120) (hB : BX h o fam n S Lm b) {L : List (List Nat)} (hL : L.length = c) (hS : SR n S b 0 L) : ∃ h', (∃ b3, frI o (o + 13) h h' ∧ BX h' o fam n S Lm b3 ∧ (∃ F G, b3 = (b.sNr F).sPl G) ∧ SR n S b3 0 (insR n S x L.reverse).reverse ∧ ∀ q, c < q → b3.Nr q = b.Nr q) ∧ Cl d 71 [.ref o, .int (nI c), .int (chM x), .int (nI (pkN (rowF n S x) n))] h none h' := by
  have kC9 := co_BO_insert
  refine Cl_eH kC9 rfl rfl ?_
  iterate 4 (refine R_s kC9 rfl rfl ?_)
  have key := lc_insert (h := h) (b := b) d hn x hc c L [] h b hL rfl (frI.refl _ _ _) hB ⟨b.Nr, b.Pl, rfl⟩ hS (fun i z hz => by simp at hz) (fun z hz => by cases hz) (fun q _ => rfl)
  rw [List.append_nil] at key
  exact key
end
