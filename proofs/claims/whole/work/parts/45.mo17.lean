/-! THE SPECIFICATION, 2, and THE REFERENCE, 16: see, event, book, looked, lines, chosen, image, undo, count -/
def specSee (U : US) (k n : Int32) : Int32 × US := if k = -1 then (0, (U.1, U.2.1, U.2.2.1, U.2.2.2.1, [], U.2.2.2.2.2)) else if 0 ≤ k.toInt ∧ k.toInt ≤ 4 then (if 0 ≤ n.toInt ∧ n.toInt ≤ 999 then (if U.2.2.2.2.1.length = 4 then (-4, U) else (nI (U.2.2.2.2.1.length + 1), (U.1, U.2.1, U.2.2.1, U.2.2.2.1, U.2.2.2.2.1 ++ [(k, n)], U.2.2.2.2.2))) else (-2, U)) else (-1, U)
def evOk (n : Nat) (k v : Int32) : Bool := decide (0 ≤ k.toInt ∧ k.toInt ≤ 3) && (!decide (k.toInt < 2) || setB n v) && (!decide (k = 2) || decide (0 ≤ v.toInt ∧ v.toInt ≤ 6))
def specEvent (U : US) (k v : Int32) : Int32 × US := if k = -1 then (0, (U.1, U.2.1, U.2.2.1, U.2.2.2.1, U.2.2.2.2.1, [], U.2.2.2.2.2.2)) else if evOk U.1 k v = true then (if k = 3 ∧ ¬ (0 ≤ v.toInt ∧ v.toInt ≤ 99) then (-2, U) else (if U.2.2.2.2.2.1.length = 8 then (-4, U) else (nI (U.2.2.2.2.2.1.length + 1), (U.1, U.2.1, U.2.2.1, U.2.2.2.1, U.2.2.2.2.1, U.2.2.2.2.2.1 ++ [(k, v)], U.2.2.2.2.2.2)))) else (-1, U)
def specBook (U : US) (k v : Int32) : Int32 × US := if k = -1 then (0, (U.1, U.2.1, U.2.2.1, U.2.2.2.1, U.2.2.2.2.1, U.2.2.2.2.2.1, [])) else if setB U.1 k = true then (if 0 ≤ v.toInt ∧ v.toInt ≤ 1 then (if U.2.2.2.2.2.2.length = 8 then (-4, U) else (nI (U.2.2.2.2.2.2.length + 1), (U.1, U.2.1, U.2.2.1, U.2.2.2.1, U.2.2.2.2.1, U.2.2.2.2.2.1, U.2.2.2.2.2.2 ++ [(k, v)]))) else (-2, U)) else (-1, U)
def pushG (G : Nat → Int32) (o l : Nat) (x y : Int32) : Nat → Int32 := upd (upd (upd G (o + 1 + 2 * l) x) (o + 2 + 2 * l) y) o (nI (l + 1))
theorem pushG_out {G : Nat → Int32} {o l : Nat} {x y : Int32} {q : Nat} (h : q < o ∨ o + 2 + 2 * l < q) : pushG G o l x y q = G q := by
  unfold pushG
  rw [pk_un (by omega), pk_un (by omega), pk_un (by omega)]
theorem rowsG_push {G : Nat → Int32} {o : Nat} {l : List (Int32 × Int32)} (h : rowsG G o l) (x y : Int32) : rowsG (pushG G o l.length x y) o (l ++ [(x, y)]) := by
  refine ⟨by unfold pushG; rw [pk_us, List.length_append]; rfl, fun i z hi => ?_⟩
  rcases Nat.lt_or_ge i l.length with q | q
  · rw [List.getElem?_append_left q] at hi
    have := h.2 i z hi
    unfold pushG
    rw [pk_un (by omega), pk_un (by omega), pk_un (by omega), pk_un (by omega), pk_un (by omega), pk_un (by omega)]
    exact this
  · have hlt := (List.getElem?_eq_some_iff.mp hi).1
    rw [List.length_append] at hlt
    have : i = l.length := by simp at hlt; omega
    subst this
    rw [List.getElem?_append_right (Nat.le_refl _), Nat.sub_self] at hi
    have hz : z = (x, y) := by simpa using hi.symm
    subst hz
    unfold pushG
    refine ⟨?_, ?_⟩
    · rw [pk_un (by omega), pk_un (by omega), pk_us]
    · rw [pk_un (by omega), pk_us]
theorem rowsG_nil {G : Nat → Int32} {o : Nat} : rowsG (upd G o (nI 0)) o [] := ⟨by rw [pk_us]; rfl, fun i x hi => by simp at hi⟩
theorem GU.row {U U' : US} {G G' : Nat → Int32} (h : GU U G) (hr : RowsOK U) (e1 : U'.1 = U.1) (e2 : U'.2.1 = U.2.1) (e3 : U'.2.2.1 = U.2.2.1) (e4 : U'.2.2.2.1 = U.2.2.2.1) (hq : ∀ q, q < 63 → G' q = G q) (h5 : rowsG G' 63 U'.2.2.2.2.1) (h6 : rowsG G' 72 U'.2.2.2.2.2.1) (h7 : rowsG G' 89 U'.2.2.2.2.2.2) : GU U' G' := by
  obtain ⟨a1, a2, a3, a4, a5, a6, a7⟩ := h
  refine ⟨by rw [hq 0 (by omega), e1]; exact a1, fun s hs => by rw [hq _ (by omega), e2]; exact a2 s hs, fun q hq2 => by rw [hq _ (by omega), e3]; exact a3 q hq2, ⟨by rw [hq _ (by omega), e4]; exact a4.1, fun i x hi => ?_⟩, h5, h6, h7⟩
  rw [e4] at hi
  have hlt := (List.getElem?_eq_some_iff.mp hi).1
  have := hr.1
  rw [hq _ (by omega)]
  exact a4.2 i x hi
theorem rowsG.congr4 {G G' : Nat → Int32} {o m : Nat} {l : List (Int32 × Int32)} (h : rowsG G o l) (hl : l.length ≤ m) (hq : ∀ q, o ≤ q → q ≤ o + 2 * m → G' q = G q) : rowsG G' o l := by
  refine ⟨by rw [hq o (by omega) (by omega)]; exact h.1, fun i x hi => ?_⟩
  have hlt := (List.getElem?_eq_some_iff.mp hi).1
  rw [hq _ (by omega) (by omega), hq _ (by omega) (by omega)]
  exact h.2 i x hi
section
variable {h : AH} {k fed pl le fi co : Int32} {G : Nat → Int32} {U : US}
theorem tl_see (d : Nat) (Q : Option Value → AH → Prop) (ho : h.2 76 = mob k fed pl le fi co) (hg : h.2 77 = ints 106 G) {l : Nat} (hl : l < 4) (e : G 63 = nI l) (x y : Int32) (kk : Q (some (.int (nI (l + 1)))) (upH h 77 (ints 106 (pushG G 63 l x y)))) : R d 226 34 [some (.ref 76), some (.int x), some (.int y)] [] h Q := by
  have kC9 := co_MO_see
  repeat (refine R_s kC9 rfl rfl ?_)
  refine R_get kC9 rfl (ho) rfl ?_
  repeat (refine R_s kC9 rfl rfl ?_)
  refine R_get kC9 rfl (ho) rfl ?_
  repeat (refine R_s kC9 rfl rfl ?_)
  refine R_ild kC9 rfl (hg) (rfl) (by decide) (by decide) ?_
  rw [e]
  repeat (refine R_s kC9 rfl rfl ?_)
  refine R_ist kC9 rfl hg (by decide) (k := 63 + 1 + 2 * l) (show nI 64 + nI 2 * nI l = _ by rw [pk_mul, nI_add]) (by omega) (by decide) ?_
  repeat (refine R_s kC9 rfl rfl ?_)
  refine R_get kC9 rfl (show (upH h 77 (ints 106 (upd G (63 + 1 + 2 * l) x))).2 76 = mob k fed pl le fi co from ho) rfl ?_
  repeat (refine R_s kC9 rfl rfl ?_)
  refine R_get kC9 rfl (show (upH h 77 (ints 106 (upd G (63 + 1 + 2 * l) x))).2 76 = mob k fed pl le fi co from ho) rfl ?_
  repeat (refine R_s kC9 rfl rfl ?_)
  refine R_ild kC9 rfl (h := upH h 77 (ints 106 (upd G (63 + 1 + 2 * l) x))) rfl (k := 63) rfl (by decide) (by decide) ?_
  rw [show upd G (63 + 1 + 2 * l) x 63 = nI l by rw [pk_un (by omega), e]]
  repeat (refine R_s kC9 rfl rfl ?_)
  refine R_ist kC9 rfl (h := upH h 77 (ints 106 (upd G (63 + 1 + 2 * l) x))) rfl (by decide) (k := 63 + 2 + 2 * l) (show nI 65 + nI 2 * nI l = _ by rw [pk_mul, nI_add]) (by omega) (by decide) ?_
  rw [upH_upH]
  repeat (refine R_s kC9 rfl rfl ?_)
  refine R_get kC9 rfl (show (upH h 77 (ints 106 (upd (upd G (63 + 1 + 2 * l) x) (63 + 2 + 2 * l) y))).2 76 = mob k fed pl le fi co from ho) rfl ?_
  repeat (refine R_s kC9 rfl rfl ?_)
  refine R_ild kC9 rfl (h := upH h 77 (ints 106 (upd (upd G (63 + 1 + 2 * l) x) (63 + 2 + 2 * l) y))) rfl (k := 63) rfl (by decide) (by decide) ?_
  rw [show upd (upd G (63 + 1 + 2 * l) x) (63 + 2 + 2 * l) y 63 = nI l by rw [pk_un (by omega), pk_un (by omega), e]]
  repeat (refine R_s kC9 rfl rfl ?_)
  refine R_ist kC9 rfl (h := upH h 77 (ints 106 (upd (upd G (63 + 1 + 2 * l) x) (63 + 2 + 2 * l) y))) rfl (by decide) (k := 63) rfl (by decide) (by decide) ?_
  rw [upH_upH]
  refine (show R d 226 66 _ _ (upH h 77 (ints 106 (upd (upd (upd G (63 + 1 + 2 * l) x) (63 + 2 + 2 * l) y) 63 (nI l + nI 1)))) Q from ?_)
  rw [nI_add l 1]
  refine (show R d 226 66 _ _ (upH h 77 (ints 106 (pushG G 63 l x y))) Q from ?_)
  repeat (refine R_s kC9 rfl rfl ?_)
  refine R_get kC9 rfl (show (upH h 77 (ints 106 (pushG G 63 l x y))).2 76 = mob k fed pl le fi co from ho) rfl ?_
  repeat (refine R_s kC9 rfl rfl ?_)
  refine R_ild kC9 rfl (h := upH h 77 (ints 106 (pushG G 63 l x y))) rfl (k := 63) rfl (by decide) (by decide) ?_
  rw [show pushG G 63 l x y 63 = nI (l + 1) from pk_us]
  exact R_ri kC9 rfl kk
theorem tl_event (d : Nat) (Q : Option Value → AH → Prop) (ho : h.2 76 = mob k fed pl le fi co) (hg : h.2 77 = ints 106 G) {l : Nat} (hl : l < 8) (e : G 72 = nI l) (x y : Int32) (kk : Q (some (.int (nI (l + 1)))) (upH h 77 (ints 106 (pushG G 72 l x y)))) : R d 232 53 [some (.ref 76), some (.int x), some (.int y)] [] h Q := by
  have kC9 := co_MO_event
  repeat (refine R_s kC9 rfl rfl ?_)
  refine R_get kC9 rfl (ho) rfl ?_
  repeat (refine R_s kC9 rfl rfl ?_)
  refine R_get kC9 rfl (ho) rfl ?_
  repeat (refine R_s kC9 rfl rfl ?_)
  refine R_ild kC9 rfl (hg) (rfl) (by decide) (by decide) ?_
  rw [e]
  repeat (refine R_s kC9 rfl rfl ?_)
  refine R_ist kC9 rfl hg (by decide) (k := 72 + 1 + 2 * l) (show nI 73 + nI 2 * nI l = _ by rw [pk_mul, nI_add]) (by omega) (by decide) ?_
  repeat (refine R_s kC9 rfl rfl ?_)
  refine R_get kC9 rfl (show (upH h 77 (ints 106 (upd G (72 + 1 + 2 * l) x))).2 76 = mob k fed pl le fi co from ho) rfl ?_
  repeat (refine R_s kC9 rfl rfl ?_)
  refine R_get kC9 rfl (show (upH h 77 (ints 106 (upd G (72 + 1 + 2 * l) x))).2 76 = mob k fed pl le fi co from ho) rfl ?_
  repeat (refine R_s kC9 rfl rfl ?_)
  refine R_ild kC9 rfl (h := upH h 77 (ints 106 (upd G (72 + 1 + 2 * l) x))) rfl (k := 72) rfl (by decide) (by decide) ?_
  rw [show upd G (72 + 1 + 2 * l) x 72 = nI l by rw [pk_un (by omega), e]]
  repeat (refine R_s kC9 rfl rfl ?_)
  refine R_ist kC9 rfl (h := upH h 77 (ints 106 (upd G (72 + 1 + 2 * l) x))) rfl (by decide) (k := 72 + 2 + 2 * l) (show nI 74 + nI 2 * nI l = _ by rw [pk_mul, nI_add]) (by omega) (by decide) ?_
  rw [upH_upH]
  repeat (refine R_s kC9 rfl rfl ?_)
  refine R_get kC9 rfl (show (upH h 77 (ints 106 (upd (upd G (72 + 1 + 2 * l) x) (72 + 2 + 2 * l) y))).2 76 = mob k fed pl le fi co from ho) rfl ?_
  repeat (refine R_s kC9 rfl rfl ?_)
  refine R_ild kC9 rfl (h := upH h 77 (ints 106 (upd (upd G (72 + 1 + 2 * l) x) (72 + 2 + 2 * l) y))) rfl (k := 72) rfl (by decide) (by decide) ?_
  rw [show upd (upd G (72 + 1 + 2 * l) x) (72 + 2 + 2 * l) y 72 = nI l by rw [pk_un (by omega), pk_un (by omega), e]]
  repeat (refine R_s kC9 rfl rfl ?_)
  refine R_ist kC9 rfl (h := upH h 77 (ints 106 (upd (upd G (72 + 1 + 2 * l) x) (72 + 2 + 2 * l) y))) rfl (by decide) (k := 72) rfl (by decide) (by decide) ?_
  rw [upH_upH]
  refine (show R d 232 85 _ _ (upH h 77 (ints 106 (upd (upd (upd G (72 + 1 + 2 * l) x) (72 + 2 + 2 * l) y) 72 (nI l + nI 1)))) Q from ?_)
  rw [nI_add l 1]
  refine (show R d 232 85 _ _ (upH h 77 (ints 106 (pushG G 72 l x y))) Q from ?_)
  repeat (refine R_s kC9 rfl rfl ?_)
  refine R_get kC9 rfl (show (upH h 77 (ints 106 (pushG G 72 l x y))).2 76 = mob k fed pl le fi co from ho) rfl ?_
  repeat (refine R_s kC9 rfl rfl ?_)
  refine R_ild kC9 rfl (h := upH h 77 (ints 106 (pushG G 72 l x y))) rfl (k := 72) rfl (by decide) (by decide) ?_
  rw [show pushG G 72 l x y 72 = nI (l + 1) from pk_us]
  exact R_ri kC9 rfl kk
theorem tl_book (d : Nat) (Q : Option Value → AH → Prop) (ho : h.2 76 = mob k fed pl le fi co) (hg : h.2 77 = ints 106 G) {l : Nat} (hl : l < 8) (e : G 89 = nI l) (x y : Int32) (kk : Q (some (.int (nI (l + 1)))) (upH h 77 (ints 106 (pushG G 89 l x y)))) : R d 235 32 [some (.ref 76), some (.int x), some (.int y)] [] h Q := by
  have kC9 := co_MO_book
  repeat (refine R_s kC9 rfl rfl ?_)
  refine R_get kC9 rfl (ho) rfl ?_
  repeat (refine R_s kC9 rfl rfl ?_)
  refine R_get kC9 rfl (ho) rfl ?_
  repeat (refine R_s kC9 rfl rfl ?_)
  refine R_ild kC9 rfl (hg) (rfl) (by decide) (by decide) ?_
  rw [e]
  repeat (refine R_s kC9 rfl rfl ?_)
  refine R_ist kC9 rfl hg (by decide) (k := 89 + 1 + 2 * l) (show nI 90 + nI 2 * nI l = _ by rw [pk_mul, nI_add]) (by omega) (by decide) ?_
  repeat (refine R_s kC9 rfl rfl ?_)
  refine R_get kC9 rfl (show (upH h 77 (ints 106 (upd G (89 + 1 + 2 * l) x))).2 76 = mob k fed pl le fi co from ho) rfl ?_
  repeat (refine R_s kC9 rfl rfl ?_)
  refine R_get kC9 rfl (show (upH h 77 (ints 106 (upd G (89 + 1 + 2 * l) x))).2 76 = mob k fed pl le fi co from ho) rfl ?_
  repeat (refine R_s kC9 rfl rfl ?_)
  refine R_ild kC9 rfl (h := upH h 77 (ints 106 (upd G (89 + 1 + 2 * l) x))) rfl (k := 89) rfl (by decide) (by decide) ?_
  rw [show upd G (89 + 1 + 2 * l) x 89 = nI l by rw [pk_un (by omega), e]]
  repeat (refine R_s kC9 rfl rfl ?_)
  refine R_ist kC9 rfl (h := upH h 77 (ints 106 (upd G (89 + 1 + 2 * l) x))) rfl (by decide) (k := 89 + 2 + 2 * l) (show nI 91 + nI 2 * nI l = _ by rw [pk_mul, nI_add]) (by omega) (by decide) ?_
  rw [upH_upH]
  repeat (refine R_s kC9 rfl rfl ?_)
  refine R_get kC9 rfl (show (upH h 77 (ints 106 (upd (upd G (89 + 1 + 2 * l) x) (89 + 2 + 2 * l) y))).2 76 = mob k fed pl le fi co from ho) rfl ?_
  repeat (refine R_s kC9 rfl rfl ?_)
  refine R_ild kC9 rfl (h := upH h 77 (ints 106 (upd (upd G (89 + 1 + 2 * l) x) (89 + 2 + 2 * l) y))) rfl (k := 89) rfl (by decide) (by decide) ?_
  rw [show upd (upd G (89 + 1 + 2 * l) x) (89 + 2 + 2 * l) y 89 = nI l by rw [pk_un (by omega), pk_un (by omega), e]]
  repeat (refine R_s kC9 rfl rfl ?_)
  refine R_ist kC9 rfl (h := upH h 77 (ints 106 (upd (upd G (89 + 1 + 2 * l) x) (89 + 2 + 2 * l) y))) rfl (by decide) (k := 89) rfl (by decide) (by decide) ?_
  rw [upH_upH]
  refine (show R d 235 64 _ _ (upH h 77 (ints 106 (upd (upd (upd G (89 + 1 + 2 * l) x) (89 + 2 + 2 * l) y) 89 (nI l + nI 1)))) Q from ?_)
  rw [nI_add l 1]
  refine (show R d 235 64 _ _ (upH h 77 (ints 106 (pushG G 89 l x y))) Q from ?_)
  repeat (refine R_s kC9 rfl rfl ?_)
  refine R_get kC9 rfl (show (upH h 77 (ints 106 (pushG G 89 l x y))).2 76 = mob k fed pl le fi co from ho) rfl ?_
  repeat (refine R_s kC9 rfl rfl ?_)
  refine R_ild kC9 rfl (h := upH h 77 (ints 106 (pushG G 89 l x y))) rfl (k := 89) rfl (by decide) (by decide) ?_
  rw [show pushG G 89 l x y 89 = nI (l + 1) from pk_us]
  exact R_ri kC9 rfl kk
theorem in_dec {v : Int32} {a b : Int64} {x y : Int} (ha : a.toInt = x) (hb : b.toInt = y) : decide (a.toInt ≤ v.toInt64.toInt ∧ v.toInt64.toInt ≤ b.toInt) = decide (x ≤ v.toInt ∧ v.toInt ≤ y) := by
  rw [ha, hb, Int32.toInt_toInt64]
theorem sp_MO_see (d : Nat) (ho : h.2 76 = mob k fed pl le fi co) (hg : h.2 77 = ints 106 G) (hU : GU U G) (hr : RowsOK U) (v w : Int32) : ∃ G', GU (specSee U v w).2 G' ∧ Cl (d + 1) 226 [.ref 76, .int v, .int w] h (some (.int (specSee U v w).1)) (upH h 77 (ints 106 G')) := by
  have kC9 := co_MO_see
  refine Cl_ex (f := fun _ => some (.int (specSee U v w).1)) (g := fun G' => upH h 77 (ints 106 G')) kC9 rfl rfl ?_
  have stay : ∀ {x : Int32}, specSee U v w = (x, U) → ∀ st, R (d + 1) 226 st [some (.ref 76), some (.int v), some (.int w)] [.int x] h (fun r2 h2 => r2 = some (.int x) ∧ h2 = h) → True := fun _ _ _ => trivial
  unfold specSee
  repeat (refine R_s kC9 rfl rfl ?_)
  refine Rr_ne kC9 rfl (fun hc => ?_) (fun hc => ?_)
  · rw [if_neg hc]
    repeat (refine R_s kC9 rfl rfl ?_)
    refine R_cs kC9 rfl rfl rfl rfl (sp_MO_isIn d _ _ _ h) ?_
    rw [in_dec (x := 0) (y := 4) (by decide) (by decide)]
    refine ZB_ne kC9 rfl (fun hc => ?_) (fun hc => ?_)
    · rw [if_pos (of_decide_eq_true hc)]
      repeat (refine R_s kC9 rfl rfl ?_)
      refine R_cs kC9 rfl rfl rfl rfl (sp_MO_isIn d _ _ _ h) ?_
      rw [in_dec (x := 0) (y := 999) (by decide) (by decide)]
      refine ZB_ne kC9 rfl (fun hc => ?_) (fun hc => ?_)
      · rw [if_pos (of_decide_eq_true hc)]
        repeat (refine R_s kC9 rfl rfl ?_)
        refine R_get kC9 rfl (ho) rfl ?_
        repeat (refine R_s kC9 rfl rfl ?_)
        refine R_ild kC9 rfl (hg) (rfl) (by decide) (by decide) ?_
        have e63 := hU.2.2.2.2.1.1
        rw [e63]
        have hl := hr.2.1
        repeat (refine R_s kC9 rfl rfl ?_)
        refine R_ne kC9 rfl rfl rfl (by omega) (by decide) (fun hd => ?_) (fun hd => ?_)
        · rw [if_neg hd]
          refine tl_see (d + 1) _ ho hg (by omega) e63 v w ⟨_, ?_, rfl, rfl⟩
          refine hU.row hr rfl rfl rfl rfl (fun q hq => pushG_out (by omega)) (rowsG_push hU.2.2.2.2.1 v w) (hU.2.2.2.2.2.1.congr4 hr.2.2.1 (fun q q1 q2 => pushG_out (by omega))) (hU.2.2.2.2.2.2.congr4 hr.2.2.2 (fun q q1 q2 => pushG_out (by omega)))
        · rw [if_pos hd]
          repeat (refine R_s kC9 rfl rfl ?_)
          exact R_ri kC9 rfl ⟨G, hU, rfl, (upH_self hg).symm⟩
      · rw [if_neg (of_decide_eq_false hc)]
        repeat (refine R_s kC9 rfl rfl ?_)
        exact R_ri kC9 rfl ⟨G, hU, rfl, (upH_self hg).symm⟩
    · rw [if_neg (of_decide_eq_false hc)]
      repeat (refine R_s kC9 rfl rfl ?_)
      exact R_ri kC9 rfl ⟨G, hU, rfl, (upH_self hg).symm⟩
  · rw [if_pos hc]
    repeat (refine R_s kC9 rfl rfl ?_)
    refine R_get kC9 rfl (ho) rfl ?_
    repeat (refine R_s kC9 rfl rfl ?_)
    refine R_ist kC9 rfl hg (by decide) (k := 63) rfl (by decide) (by decide) ?_
    repeat (refine R_s kC9 rfl rfl ?_)
    refine R_ri kC9 rfl ⟨upd G 63 (nI 0), ?_, rfl, rfl⟩
    exact hU.row hr rfl rfl rfl rfl (fun q hq => pk_un (by omega)) rowsG_nil (hU.2.2.2.2.2.1.congr4 hr.2.2.1 (fun q q1 q2 => pk_un (by omega))) (hU.2.2.2.2.2.2.congr4 hr.2.2.2 (fun q q1 q2 => pk_un (by omega)))
theorem sp_MO_event (d : Nat) (ho : h.2 76 = mob k fed pl le fi co) (hg : h.2 77 = ints 106 G) (hU : GU U G) (hr : RowsOK U) (hn : U.1 ≤ 5) (v w : Int32) : ∃ G', GU (specEvent U v w).2 G' ∧ Cl (d + 2) 232 [.ref 76, .int v, .int w] h (some (.int (specEvent U v w).1)) (upH h 77 (ints 106 G')) := by
  have kC9 := co_MO_event
  refine Cl_ex (f := fun _ => some (.int (specEvent U v w).1)) (g := fun G' => upH h 77 (ints 106 G')) kC9 rfl rfl ?_
  unfold specEvent
  repeat (refine R_s kC9 rfl rfl ?_)
  refine Rr_ne kC9 rfl (fun hc => ?_) (fun hc => ?_)
  · rw [if_neg hc]
    have no : evOk U.1 v w = false → R (d + 2) 232 32 [some (.ref 76), some (.int v), some (.int w)] [] h (fun r2 h2 => ∃ G', GU (if evOk U.1 v w = true then (if v = 3 ∧ ¬ (0 ≤ w.toInt ∧ w.toInt ≤ 99) then ((-2 : Int32), U) else (if U.2.2.2.2.2.1.length = 8 then (-4, U) else (nI (U.2.2.2.2.2.1.length + 1), (U.1, U.2.1, U.2.2.1, U.2.2.2.1, U.2.2.2.2.1, U.2.2.2.2.2.1 ++ [(v, w)], U.2.2.2.2.2.2)))) else (-1, U)).2 G' ∧ r2 = some (.int (if evOk U.1 v w = true then (if v = 3 ∧ ¬ (0 ≤ w.toInt ∧ w.toInt ≤ 99) then ((-2 : Int32), U) else (if U.2.2.2.2.2.1.length = 8 then (-4, U) else (nI (U.2.2.2.2.2.1.length + 1), (U.1, U.2.1, U.2.2.1, U.2.2.2.1, U.2.2.2.2.1, U.2.2.2.2.2.1 ++ [(v, w)], U.2.2.2.2.2.2)))) else (-1, U)).1) ∧ h2 = upH h 77 (ints 106 G')) := by
      intro q
      rw [q, if_neg (by decide)]
      repeat (refine R_s kC9 rfl rfl ?_)
      exact R_ri kC9 rfl ⟨G, hU, rfl, (upH_self hg).symm⟩
    have yes : evOk U.1 v w = true → R (d + 2) 232 34 [some (.ref 76), some (.int v), some (.int w)] [] h (fun r2 h2 => ∃ G', GU (if evOk U.1 v w = true then (if v = 3 ∧ ¬ (0 ≤ w.toInt ∧ w.toInt ≤ 99) then ((-2 : Int32), U) else (if U.2.2.2.2.2.1.length = 8 then (-4, U) else (nI (U.2.2.2.2.2.1.length + 1), (U.1, U.2.1, U.2.2.1, U.2.2.2.1, U.2.2.2.2.1, U.2.2.2.2.2.1 ++ [(v, w)], U.2.2.2.2.2.2)))) else (-1, U)).2 G' ∧ r2 = some (.int (if evOk U.1 v w = true then (if v = 3 ∧ ¬ (0 ≤ w.toInt ∧ w.toInt ≤ 99) then ((-2 : Int32), U) else (if U.2.2.2.2.2.1.length = 8 then (-4, U) else (nI (U.2.2.2.2.2.1.length + 1), (U.1, U.2.1, U.2.2.1, U.2.2.2.1, U.2.2.2.2.1, U.2.2.2.2.2.1 ++ [(v, w)], U.2.2.2.2.2.2)))) else (-1, U)).1) ∧ h2 = upH h 77 (ints 106 G')) := by
      intro q
      rw [q, if_pos rfl]
      have push : ¬ (v = 3 ∧ ¬ (0 ≤ w.toInt ∧ w.toInt ≤ 99)) → R (d + 2) 232 45 [some (.ref 76), some (.int v), some (.int w)] [] h (fun r2 h2 => ∃ G', GU (if v = 3 ∧ ¬ (0 ≤ w.toInt ∧ w.toInt ≤ 99) then ((-2 : Int32), U) else (if U.2.2.2.2.2.1.length = 8 then (-4, U) else (nI (U.2.2.2.2.2.1.length + 1), (U.1, U.2.1, U.2.2.1, U.2.2.2.1, U.2.2.2.2.1, U.2.2.2.2.2.1 ++ [(v, w)], U.2.2.2.2.2.2)))).2 G' ∧ r2 = some (.int (if v = 3 ∧ ¬ (0 ≤ w.toInt ∧ w.toInt ≤ 99) then ((-2 : Int32), U) else (if U.2.2.2.2.2.1.length = 8 then (-4, U) else (nI (U.2.2.2.2.2.1.length + 1), (U.1, U.2.1, U.2.2.1, U.2.2.2.1, U.2.2.2.2.1, U.2.2.2.2.2.1 ++ [(v, w)], U.2.2.2.2.2.2)))).1) ∧ h2 = upH h 77 (ints 106 G')) := by
        intro q2
        rw [if_neg q2]
        repeat (refine R_s kC9 rfl rfl ?_)
        refine R_get kC9 rfl (ho) rfl ?_
        repeat (refine R_s kC9 rfl rfl ?_)
        refine R_ild kC9 rfl (hg) (rfl) (by decide) (by decide) ?_
        have e72 := hU.2.2.2.2.2.1.1
        rw [e72]
        have hl := hr.2.2.1
        repeat (refine R_s kC9 rfl rfl ?_)
        refine R_ne kC9 rfl rfl rfl (by omega) (by decide) (fun hd => ?_) (fun hd => ?_)
        · rw [if_neg hd]
          refine tl_event (d + 2) _ ho hg (by omega) e72 v w ⟨_, ?_, rfl, rfl⟩
          refine hU.row hr rfl rfl rfl rfl (fun q hq => pushG_out (by omega)) (hU.2.2.2.2.1.congr4 hr.2.1 (fun q q1 q2 => pushG_out (by omega))) (rowsG_push hU.2.2.2.2.2.1 v w) (hU.2.2.2.2.2.2.congr4 hr.2.2.2 (fun q q1 q2 => pushG_out (by omega)))
        · rw [if_pos hd]
          repeat (refine R_s kC9 rfl rfl ?_)
          exact R_ri kC9 rfl ⟨G, hU, rfl, (upH_self hg).symm⟩
      repeat (refine R_s kC9 rfl rfl ?_)
      refine Rr_ne kC9 rfl (fun hc => ?_) (fun hc => ?_)
      · exact push (fun q => hc q.1)
      · have h3 := hc
        repeat (refine R_s kC9 rfl rfl ?_)
        refine R_cs kC9 rfl rfl rfl rfl (sp_MO_isIn (d + 1) _ _ _ h) ?_
        rw [in_dec (x := 0) (y := 99) (by decide) (by decide)]
        refine ZB_ne kC9 rfl (fun hc => ?_) (fun hc => ?_)
        · exact push (fun q => q.2 (of_decide_eq_true hc))
        · rw [if_pos ⟨h3, of_decide_eq_false hc⟩]
          repeat (refine R_s kC9 rfl rfl ?_)
          exact R_ri kC9 rfl ⟨G, hU, rfl, (upH_self hg).symm⟩
    repeat (refine R_s kC9 rfl rfl ?_)
    refine R_cs kC9 rfl rfl rfl rfl (sp_MO_isIn (d + 1) _ _ _ h) ?_
    rw [in_dec (x := 0) (y := 3) (by decide) (by decide)]
    refine ZB_eq kC9 rfl (fun hc => ?_) (fun hc => ?_)
    · exact no (by unfold evOk; rw [hc]; rfl)
    · have h1 := hc
      have c2 : (nI 2).toInt = 2 := by decide
      have mid : (!decide (v.toInt < 2) || setB U.1 w) = true → R (d + 2) 232 23 [some (.ref 76), some (.int v), some (.int w)] [] h (fun r2 h2 => ∃ G', GU (if evOk U.1 v w = true then (if v = 3 ∧ ¬ (0 ≤ w.toInt ∧ w.toInt ≤ 99) then ((-2 : Int32), U) else (if U.2.2.2.2.2.1.length = 8 then (-4, U) else (nI (U.2.2.2.2.2.1.length + 1), (U.1, U.2.1, U.2.2.1, U.2.2.2.1, U.2.2.2.2.1, U.2.2.2.2.2.1 ++ [(v, w)], U.2.2.2.2.2.2)))) else (-1, U)).2 G' ∧ r2 = some (.int (if evOk U.1 v w = true then (if v = 3 ∧ ¬ (0 ≤ w.toInt ∧ w.toInt ≤ 99) then ((-2 : Int32), U) else (if U.2.2.2.2.2.1.length = 8 then (-4, U) else (nI (U.2.2.2.2.2.1.length + 1), (U.1, U.2.1, U.2.2.1, U.2.2.2.1, U.2.2.2.2.1, U.2.2.2.2.2.1 ++ [(v, w)], U.2.2.2.2.2.2)))) else (-1, U)).1) ∧ h2 = upH h 77 (ints 106 G')) := by
        intro q
        repeat (refine R_s kC9 rfl rfl ?_)
        refine Rr_ne kC9 rfl (fun hc => ?_) (fun hc => ?_)
        · exact yes (by unfold evOk; rw [h1, q, decide_eq_false (show ¬ v = 2 from hc)]; rfl)
        · have h2 := hc
          repeat (refine R_s kC9 rfl rfl ?_)
          refine R_cs kC9 rfl rfl rfl rfl (sp_MO_isIn (d + 1) _ _ _ h) ?_
          rw [in_dec (x := 0) (y := 6) (by decide) (by decide)]
          refine ZB_ne kC9 rfl (fun hc => ?_) (fun hc => ?_)
          · exact yes (by unfold evOk; rw [h1, q, hc, Bool.or_true]; rfl)
          · exact no (by unfold evOk; rw [h1, q, hc, decide_eq_true (show v = 2 from h2)]; rfl)
      repeat (refine R_s kC9 rfl rfl ?_)
      refine Rr_ge kC9 rfl (fun hd => ?_) (fun hd => ?_)
      · have : ¬ v.toInt < 2 := by rw [Int32.le_iff_toInt_le, c2] at hd; omega
        exact mid (by rw [decide_eq_false this]; rfl)
      · have h2 : v.toInt < 2 := by rw [Int32.le_iff_toInt_le, c2] at hd; omega
        repeat (refine R_s kC9 rfl rfl ?_)
        refine R_cv kC9 rfl rfl rfl rfl (ho) (by decide) (sp_MO_isSet d ho hg hn hU.1 w) ?_
        refine ZB_eq kC9 rfl (fun hc => ?_) (fun hc => ?_)
        · exact no (by unfold evOk; rw [h1, hc, decide_eq_true h2]; rfl)
        · exact mid (by rw [hc, Bool.or_true])
  · rw [if_pos hc]
    repeat (refine R_s kC9 rfl rfl ?_)
    refine R_get kC9 rfl (ho) rfl ?_
    repeat (refine R_s kC9 rfl rfl ?_)
    refine R_ist kC9 rfl hg (by decide) (k := 72) rfl (by decide) (by decide) ?_
    repeat (refine R_s kC9 rfl rfl ?_)
    refine R_ri kC9 rfl ⟨upd G 72 (nI 0), ?_, rfl, rfl⟩
    exact hU.row hr rfl rfl rfl rfl (fun q hq => pk_un (by omega)) (hU.2.2.2.2.1.congr4 hr.2.1 (fun q q1 q2 => pk_un (by omega))) rowsG_nil (hU.2.2.2.2.2.2.congr4 hr.2.2.2 (fun q q1 q2 => pk_un (by omega)))
theorem sp_MO_book (d : Nat) (ho : h.2 76 = mob k fed pl le fi co) (hg : h.2 77 = ints 106 G) (hU : GU U G) (hr : RowsOK U) (hn : U.1 ≤ 5) (v w : Int32) : ∃ G', GU (specBook U v w).2 G' ∧ Cl (d + 2) 235 [.ref 76, .int v, .int w] h (some (.int (specBook U v w).1)) (upH h 77 (ints 106 G')) := by
  have kC9 := co_MO_book
  refine Cl_ex (f := fun _ => some (.int (specBook U v w).1)) (g := fun G' => upH h 77 (ints 106 G')) kC9 rfl rfl ?_
  unfold specBook
  repeat (refine R_s kC9 rfl rfl ?_)
  refine Rr_ne kC9 rfl (fun hc => ?_) (fun hc => ?_)
  · rw [if_neg hc]
    repeat (refine R_s kC9 rfl rfl ?_)
    refine R_cv kC9 rfl rfl rfl rfl (ho) (by decide) (sp_MO_isSet d ho hg hn hU.1 v) ?_
    refine ZB_ne kC9 rfl (fun hc => ?_) (fun hc => ?_)
    · rw [if_pos hc]
      repeat (refine R_s kC9 rfl rfl ?_)
      refine R_cs kC9 rfl rfl rfl rfl (sp_MO_isIn (d + 1) _ _ _ h) ?_
      rw [in_dec (x := 0) (y := 1) (by decide) (by decide)]
      refine ZB_ne kC9 rfl (fun hc => ?_) (fun hc => ?_)
      · rw [if_pos (of_decide_eq_true hc)]
        repeat (refine R_s kC9 rfl rfl ?_)
        refine R_get kC9 rfl (ho) rfl ?_
        repeat (refine R_s kC9 rfl rfl ?_)
        refine R_ild kC9 rfl (hg) (rfl) (by decide) (by decide) ?_
        have e89 := hU.2.2.2.2.2.2.1
        rw [e89]
        have hl := hr.2.2.2
        repeat (refine R_s kC9 rfl rfl ?_)
        refine R_ne kC9 rfl rfl rfl (by omega) (by decide) (fun hd => ?_) (fun hd => ?_)
        · rw [if_neg hd]
          refine tl_book (d + 2) _ ho hg (by omega) e89 v w ⟨_, ?_, rfl, rfl⟩
          refine hU.row hr rfl rfl rfl rfl (fun q hq => pushG_out (by omega)) (hU.2.2.2.2.1.congr4 hr.2.1 (fun q q1 q2 => pushG_out (by omega))) (hU.2.2.2.2.2.1.congr4 hr.2.2.1 (fun q q1 q2 => pushG_out (by omega))) (rowsG_push hU.2.2.2.2.2.2 v w)
        · rw [if_pos hd]
          repeat (refine R_s kC9 rfl rfl ?_)
          exact R_ri kC9 rfl ⟨G, hU, rfl, (upH_self hg).symm⟩
      · rw [if_neg (of_decide_eq_false hc)]
        repeat (refine R_s kC9 rfl rfl ?_)
        exact R_ri kC9 rfl ⟨G, hU, rfl, (upH_self hg).symm⟩
    · rw [if_neg (by rw [hc]; decide)]
      repeat (refine R_s kC9 rfl rfl ?_)
      exact R_ri kC9 rfl ⟨G, hU, rfl, (upH_self hg).symm⟩
  · rw [if_pos hc]
    repeat (refine R_s kC9 rfl rfl ?_)
    refine R_get kC9 rfl (ho) rfl ?_
    repeat (refine R_s kC9 rfl rfl ?_)
    refine R_ist kC9 rfl hg (by decide) (k := 89) rfl (by decide) (by decide) ?_
    repeat (refine R_s kC9 rfl rfl ?_)
    refine R_ri kC9 rfl ⟨upd G 89 (nI 0), ?_, rfl, rfl⟩
    exact hU.row hr rfl rfl rfl rfl (fun q hq => pk_un (by omega)) (hU.2.2.2.2.1.congr4 hr.2.1 (fun q q1 q2 => pk_un (by omega))) (hU.2.2.2.2.2.1.congr4 hr.2.2.1 (fun q q1 q2 => pk_un (by omega))) rowsG_nil
end
