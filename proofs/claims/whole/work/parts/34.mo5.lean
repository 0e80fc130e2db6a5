/-! THE REFERENCE, 5: closing a family -/
def clsd (F : Nat → Bool) : Prop := ∀ a b, a < 32 → b < 32 → F a = true → F b = true → a &&& b ≠ 0 → F (a ||| b) = true
def addM (S : Int32) (c : Nat) : Int32 := S ||| (nI 1 <<< (nI c &&& 31))
theorem addM_bt (S : Int32) {c i : Nat} (hc : c < 32) (hi : i < 32) : bt (addM S c) i = (bt S i || decide (i = c)) := by
  unfold addM
  rw [b_or, one_bt hc hi]
/-- where the closing stands: the mask at first, the mask now, whether something was open -/
def OI (cl : Bool) (S0 Sc : Int32) (o : Bool) (a b : Nat) : Prop :=
  (∀ s, s < 32 → bt S0 s = true → bt Sc s = true) ∧ (∀ X, clsd X → (∀ s, s < 32 → bt S0 s = true → X s = true) → ∀ s, s < 32 → bt Sc s = true → X s = true) ∧
  (o = false → Sc = S0 ∧ ∀ x y, x < 32 → y < x → (x < a ∨ (x = a ∧ y < b)) → bt S0 x = true → bt S0 y = true → x &&& y ≠ 0 → bt S0 (x ||| y) = true) ∧
  (o = true → (cl = true → ∃ z, z < 32 ∧ bt Sc z = true ∧ bt S0 z = false) ∧ (cl = false → Sc = S0 ∧ ¬ clsd (bt S0)))
theorem OI.skip {cl : Bool} {S0 Sc : Int32} {o : Bool} {a b : Nat} (hI : OI cl S0 Sc o a b) (hn : ¬ (bt Sc a = true ∧ bt Sc b = true ∧ a &&& b ≠ 0 ∧ bt Sc (a ||| b) = false)) : OI cl S0 Sc o a (b + 1) := by
  obtain ⟨h1, h2, h3, h4⟩ := hI
  refine ⟨h1, h2, fun ho => ?_, h4⟩
  obtain ⟨e, h5⟩ := h3 ho
  refine ⟨e, fun x y hx hy hp hX hY hne => ?_⟩
  rcases hp with hp | ⟨rfl, hp⟩
  · exact h5 x y hx hy (Or.inl hp) hX hY hne
  · rcases Nat.lt_or_ge y b with q | q
    · exact h5 x y hx hy (Or.inr ⟨rfl, q⟩) hX hY hne
    · have : y = b := by omega
      subst this
      subst e
      cases hb : bt Sc (x ||| y) with
      | true => rfl
      | false => exact absurd ⟨hX, hY, hne, hb⟩ hn
theorem OI.addT {S0 Sc : Int32} {o : Bool} {a b : Nat} (hI : OI true S0 Sc o a b) (ha : a < 32) (hb : b < 32) (hA : bt Sc a = true) (hB : bt Sc b = true) (hne : a &&& b ≠ 0) (hU : bt Sc (a ||| b) = false) : OI true S0 (addM Sc (a ||| b)) true a (b + 1) := by
  obtain ⟨h1, h2, h3, h4⟩ := hI
  have hu : a ||| b < 32 := Nat.or_lt_two_pow (n := 5) ha hb
  refine ⟨fun s hs h => by rw [addM_bt _ hu hs, h1 s hs h]; rfl, fun X hX hs0 s hs h => ?_, fun h => (by cases h), fun _ => ⟨fun _ => ⟨a ||| b, hu, by rw [addM_bt _ hu hu, decide_eq_true rfl, Bool.or_true], ?_⟩, fun h => (by cases h)⟩⟩
  · rw [addM_bt _ hu hs, Bool.or_eq_true, decide_eq_true_eq] at h
    rcases h with h | rfl
    · exact h2 X hX hs0 s hs h
    · exact hX a b ha hb (h2 X hX hs0 a ha hA) (h2 X hX hs0 b hb hB) hne
  · cases hz : bt S0 (a ||| b) with
    | false => rfl
    | true => rw [h1 _ hu hz] at hU; cases hU
theorem OI.addF {S0 Sc : Int32} {o : Bool} {a b : Nat} (hI : OI false S0 Sc o a b) (ha : a < 32) (hb : b < 32) (hA : bt Sc a = true) (hB : bt Sc b = true) (hne : a &&& b ≠ 0) (hU : bt Sc (a ||| b) = false) : OI false S0 Sc true a (b + 1) := by
  obtain ⟨h1, h2, h3, h4⟩ := hI
  have e : Sc = S0 := by
    cases o with
    | false => exact (h3 rfl).1
    | true => exact ((h4 rfl).2 rfl).1
  subst e
  exact ⟨h1, h2, fun h => (by cases h), fun _ => ⟨fun h => (by cases h), fun _ => ⟨rfl, fun q => by rw [q a b ha hb hA hB hne] at hU; cases hU⟩⟩⟩
theorem OI.next {cl : Bool} {S0 Sc : Int32} {o : Bool} {a b : Nat} (hI : OI cl S0 Sc o a b) (hb : a ≤ b) : OI cl S0 Sc o (a + 1) 1 := by
  obtain ⟨h1, h2, h3, h4⟩ := hI
  refine ⟨h1, h2, fun ho => ⟨(h3 ho).1, fun x y hx hy hp hX hY hne => ?_⟩, h4⟩
  rcases hp with hp | ⟨rfl, hp⟩
  · exact (h3 ho).2 x y hx hy (by omega) hX hY hne
  · have : y = 0 := by omega
    subst this
    exact absurd (Nat.and_zero _) hne
theorem OI.closed {cl : Bool} {S0 Sc : Int32} (hI : OI cl S0 Sc false 32 1) : Sc = S0 ∧ clsd (bt S0) := by
  obtain ⟨e, h⟩ := hI.2.2.1 rfl
  refine ⟨e, fun a b ha hb hA hB hne => ?_⟩
  rcases Nat.lt_trichotomy a b with q | q | q
  · rw [Nat.or_comm]
    exact h b a hb q (Or.inl hb) hB hA (by rw [Nat.and_comm]; exact hne)
  · subst q
    rw [Nat.or_self]; exact hA
  · exact h a b ha q (Or.inl ha) hA hB hne
section
variable {h : AH} {k fed pl le fi co : Int32} {G : Nat → Int32} {n : Nat} {S Lm : Int32}
/-- the array that stands for a mask, other places as in G -/
def GM (G : Nat → Int32) (S : Int32) (G' : Nat → Int32) : Prop := (∀ s, s < 32 → G' (1 + s) = b2i (bt S s)) ∧ G' 0 = G 0 ∧ ∀ q, 33 ≤ q → G' q = G q
theorem GM.eq {G G1 G2 : Nat → Int32} {S : Int32} (h1 : GM G S G1) (h2 : GM G S G2) : G1 = G2 := by
  funext q
  rcases Nat.lt_or_ge q 33 with hq | hq
  · cases q with
    | zero => rw [h1.2.1, h2.2.1]
    | succ q =>
      have e1 := h1.1 q (by omega)
      have e2 := h2.1 q (by omega)
      rw [Nat.add_comm] at e1 e2
      rw [e1, e2]
  · rw [h1.2.2 q hq, h2.2.2 q hq]
theorem GM.add {G G1 : Nat → Int32} {S : Int32} (h1 : GM G S G1) {c : Nat} (hc : c < 32) : GM G (addM S c) (upd G1 (1 + c) (nI 1)) := by
  refine ⟨fun s hs => ?_, by rw [pk_un (by omega)]; exact h1.2.1, fun q hq => by rw [pk_un (by omega)]; exact h1.2.2 q hq⟩
  rw [addM_bt S hc hs]
  by_cases e : s = c
  · subst e; rw [pk_us, decide_eq_true rfl, Bool.or_true]; rfl
  · rw [pk_un (by omega), h1.1 s hs, decide_eq_false e, Bool.or_false]
theorem upd_same {G : Nat → Int32} {q : Nat} {v : Int32} (h : G q = v) : upd G q v = G := by
  funext j
  by_cases e : j = q
  · subst e; rw [pk_us, h]
  · rw [pk_un e]
theorem lp_openB (d : Nat) (Q : Option Value → AH → Prop) (ho : h.2 76 = mob k fed pl le fi co) (cl : Bool) {S0 : Int32} {a : Nat} (ha : a < 32) : ∀ (m b : Nat) (Sc : Int32) (o : Bool) (G1 : Nat → Int32), b + m = a → OI cl S0 Sc o a b → GM G Sc G1 → (∀ (Sc' : Int32) (o' : Bool) (G2 : Nat → Int32), OI cl S0 Sc' o' a a → GM G Sc' G2 → R d 167 58 [some (.ref 76), some (.int (b2i cl)), some (.int (b2i o')), some (.int (nI a)), some (.int (nI a))] [] (upH h 77 (ints 106 G2)) Q) → R d 167 9 [some (.ref 76), some (.int (b2i cl)), some (.int (b2i o)), some (.int (nI a)), some (.int (nI b))] [] (upH h 77 (ints 106 G1)) Q := by
  have kC9 := co_MO_isOpen
  intro m
  induction m with
  | zero =>
    intro b Sc o G1 hb hI hG kk
    have : b = a := by omega
    subst this
    repeat (refine R_s kC9 rfl rfl ?_)
    refine R_ge kC9 rfl (rfl) (rfl) (by omega) (by omega) (fun hc => ?_) (fun hc => ?_)
    · exact kk Sc o G1 hI hG
    · omega
  | succ m ih =>
    intro b Sc o G1 hb hI hG kk
    have ho' : (upH h 77 (ints 106 G1)).2 76 = mob k fed pl le fi co := ho
    have hg' : (upH h 77 (ints 106 G1)).2 77 = ints 106 G1 := rfl
    have hu : a ||| b < 32 := Nat.or_lt_two_pow (n := 5) ha (by omega)
    have goon : ∀ (Sc' : Int32) (o' : Bool) (G2 : Nat → Int32), OI cl S0 Sc' o' a (b + 1) → GM G Sc' G2 → R d 167 56 [some (.ref 76), some (.int (b2i cl)), some (.int (b2i o')), some (.int (nI a)), some (.int (nI b))] [] (upH h 77 (ints 106 G2)) Q := by
      intro Sc' o' G2 hI' hG'
      repeat (refine R_s kC9 rfl rfl ?_)
      refine R_g kC9 rfl ?_
      refine (show R d 167 9 [some (.ref 76), some (.int (b2i cl)), some (.int (b2i o')), some (.int (nI a)), some (.int (nI b + nI 1))] [] (upH h 77 (ints 106 G2)) Q from ?_)
      rw [nI_add]
      exact ih (b + 1) Sc' o' G2 (by omega) hI' hG' kk
    have no : ¬ (bt Sc a = true ∧ bt Sc b = true ∧ a &&& b ≠ 0 ∧ bt Sc (a ||| b) = false) → R d 167 56 [some (.ref 76), some (.int (b2i cl)), some (.int (b2i o)), some (.int (nI a)), some (.int (nI b))] [] (upH h 77 (ints 106 G1)) Q := fun hn => goon Sc o G1 (hI.skip hn) hG
    repeat (refine R_s kC9 rfl rfl ?_)
    refine R_ge kC9 rfl (rfl) (rfl) (by omega) (by omega) (fun hc => ?_) (fun hc => ?_)
    · omega
    · repeat (refine R_s kC9 rfl rfl ?_)
      refine R_get kC9 rfl (ho') rfl ?_
      repeat (refine R_s kC9 rfl rfl ?_)
      refine R_ild kC9 rfl (hg') (nI_add 1 a) (by omega) (by decide) ?_
      rw [hG.1 a ha, b2i_nI (bt Sc a)]
      repeat (refine R_s kC9 rfl rfl ?_)
      refine R_ne kC9 rfl rfl rfl (by cases bt Sc a <;> decide) (by decide) (fun hA => ?_) (fun hA => ?_)
      · exact no (fun q => by rw [q.1] at hA; exact hA rfl)
      · have hA : bt Sc a = true := by cases hq : bt Sc a with | true => rfl | false => rw [hq] at hA; cases hA
        repeat (refine R_s kC9 rfl rfl ?_)
        refine R_get kC9 rfl (ho') rfl ?_
        repeat (refine R_s kC9 rfl rfl ?_)
        refine R_ild kC9 rfl (hg') (nI_add 1 b) (by omega) (by decide) ?_
        rw [hG.1 b (by omega), b2i_nI (bt Sc b)]
        repeat (refine R_s kC9 rfl rfl ?_)
        refine R_ne kC9 rfl rfl rfl (by cases bt Sc b <;> decide) (by decide) (fun hB => ?_) (fun hB => ?_)
        · exact no (fun q => by rw [q.2.1] at hB; exact hB rfl)
        · have hB : bt Sc b = true := by cases hq : bt Sc b with | true => rfl | false => rw [hq] at hB; cases hB
          have hand : a &&& b < 32 := Nat.lt_of_le_of_lt Nat.and_le_left ha
          repeat (refine R_s kC9 rfl rfl ?_)
          refine Z_eq kC9 rfl (nx_and a b) (by omega) (fun hc => ?_) (fun hc => ?_)
          · exact no (fun q => q.2.2.1 hc)
          · have hne := hc
            repeat (refine R_s kC9 rfl rfl ?_)
            refine R_get kC9 rfl (ho') rfl ?_
            repeat (refine R_s kC9 rfl rfl ?_)
            refine R_ild kC9 rfl (hg') (by rw [nx_or, nI_add]) (by omega) (by decide) ?_
            rw [hG.1 _ hu, b2i_nI (bt Sc (a ||| b))]
            refine Z_ne kC9 rfl rfl (by cases bt Sc (a ||| b) <;> decide) (fun hU => ?_) (fun hU => ?_)
            · exact no (fun q => by rw [q.2.2.2] at hU; exact hU rfl)
            · have hU : bt Sc (a ||| b) = false := by cases hq : bt Sc (a ||| b) with | false => rfl | true => rw [hq] at hU; cases hU
              repeat (refine R_s kC9 rfl rfl ?_)
              refine R_get kC9 rfl (ho') rfl ?_
              repeat (refine R_s kC9 rfl rfl ?_)
              cases cl with
              | true =>
                refine ZB_eq kC9 rfl (q := true) (fun hq => by cases hq) (fun _ => ?_)
                repeat (refine R_s kC9 rfl rfl ?_)
                refine R_g kC9 rfl ?_
                refine R_ist kC9 rfl (hg') (by decide) (by rw [nx_or, nI_add]) (by omega) (by decide) ?_
                rw [upH_upH]
                exact goon (addM Sc (a ||| b)) true _ (hI.addT ha (by omega) hA hB hne hU) (hG.add hu)
              | false =>
                refine ZB_eq kC9 rfl (q := false) (fun _ => ?_) (fun hq => by cases hq)
                repeat (refine R_s kC9 rfl rfl ?_)
                refine R_ist kC9 rfl (hg') (by decide) (by rw [nx_or, nI_add]) (by omega) (by decide) ?_
                rw [upH_upH, upd_same (by rw [hG.1 _ hu, hU]; rfl)]
                exact goon Sc true _ (hI.addF ha (by omega) hA hB hne hU) hG
theorem lp_openA (d : Nat) (Q : Option Value → AH → Prop) (ho : h.2 76 = mob k fed pl le fi co) (cl : Bool) {S0 : Int32} : ∀ (m a : Nat) (Sc : Int32) (o : Bool) (G1 : Nat → Int32) (w : Option Value), a + m = 32 → OI cl S0 Sc o a 1 → GM G Sc G1 → 1 ≤ a → (∀ (Sc' : Int32) (o' : Bool) (G2 : Nat → Int32) (w3 w4 : Option Value), OI cl S0 Sc' o' 32 1 → GM G Sc' G2 → R d 167 60 [some (.ref 76), some (.int (b2i cl)), some (.int (b2i o')), w3, w4] [] (upH h 77 (ints 106 G2)) Q) → R d 167 4 [some (.ref 76), some (.int (b2i cl)), some (.int (b2i o)), some (.int (nI a)), w] [] (upH h 77 (ints 106 G1)) Q := by
  have kC9 := co_MO_isOpen
  intro m
  induction m with
  | zero =>
    intro a Sc o G1 w ha hI hG h1 kk
    have : a = 32 := by omega
    subst this
    repeat (refine R_s kC9 rfl rfl ?_)
    refine R_ge kC9 rfl (rfl) (rfl) (by omega) (by omega) (fun hc => ?_) (fun hc => ?_)
    · exact kk Sc o G1 _ _ hI hG
    · omega
  | succ m ih =>
    intro a Sc o G1 w ha hI hG h1 kk
    repeat (refine R_s kC9 rfl rfl ?_)
    refine R_ge kC9 rfl (rfl) (rfl) (by omega) (by omega) (fun hc => ?_) (fun hc => ?_)
    · omega
    · iterate 2 (refine R_s kC9 rfl rfl ?_)
      refine (show R d 167 9 [some (.ref 76), some (.int (b2i cl)), some (.int (b2i o)), some (.int (nI a)), some (.int (nI 1))] [] (upH h 77 (ints 106 G1)) Q from ?_)
      refine lp_openB d Q ho cl (by omega) (a - 1) 1 Sc o G1 (by omega) hI hG (fun Sc' o' G2 hI' hG' => ?_)
      repeat (refine R_s kC9 rfl rfl ?_)
      refine R_g kC9 rfl ?_
      refine (show R d 167 4 [some (.ref 76), some (.int (b2i cl)), some (.int (b2i o')), some (.int (nI a + nI 1)), some (.int (nI a))] [] (upH h 77 (ints 106 G2)) Q from ?_)
      rw [nI_add]
      exact ih (a + 1) Sc' o' G2 _ (by omega) (hI'.next (Nat.le_refl _)) hG' (by omega) kk
theorem sp_MO_isOpen (d : Nat) (ho : h.2 76 = mob k fed pl le fi co) (hg : h.2 77 = ints 106 G) (cl : Bool) (hS : ∀ s, s < 32 → G (1 + s) = b2i (bt S s)) : ∃ z : Int32 × Bool × (Nat → Int32), (OI cl S z.1 z.2.1 32 1 ∧ GM G z.1 z.2.2) ∧ Cl d 167 [.ref 76, .int (b2i cl)] h (some (.int (b2i z.2.1))) (upH h 77 (ints 106 z.2.2)) := by
  have kC9 := co_MO_isOpen
  refine Cl_ex (α := Int32 × Bool × (Nat → Int32)) (f := fun z => some (.int (b2i z.2.1))) (g := fun z => upH h 77 (ints 106 z.2.2)) kC9 rfl rfl ?_
  iterate 4 (refine R_s kC9 rfl rfl ?_)
  refine (show R d 167 4 [some (.ref 76), some (.int (b2i cl)), some (.int (b2i false)), some (.int (nI 1)), none] [] h _ from ?_)
  have hh : h = upH h 77 (ints 106 G) := (upH_self hg).symm
  rw [hh]
  refine lp_openA (k := k) (fed := fed) (pl := pl) (le := le) (fi := fi) (co := co) (G := G) d _ ho cl (S0 := S) 31 1 S false G none (by omega) ⟨fun s _ q => q, fun X _ hX s hs q => hX s hs q, fun _ => ⟨rfl, fun x y hx hy hp hX hY hne => ?_⟩, fun q => (by cases q)⟩ ⟨hS, rfl, fun _ _ => rfl⟩ (Nat.le_refl 1) (fun Sc' o' G2 w3 w4 hI hG => ?_)
  · have : x = 0 ∨ y = 0 := by omega
    rcases this with rfl | rfl
    · exact absurd (Nat.zero_and _) hne
    · exact absurd (Nat.and_zero _) hne
  · rw [← hh]
    repeat (refine R_s kC9 rfl rfl ?_)
    exact R_rb kC9 rfl ⟨(Sc', o', G2), ⟨hI, hG⟩, rfl, rfl⟩
end
