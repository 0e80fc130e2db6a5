/-! THE SPECIFICATION, 4: nests in their order; THE REFERENCE, 21: grows -/
/-- the nests that come of ns by sets from s on, m at most -/
noncomputable def gnL (n : Nat) (S : Int32) : Nat → Nat → List Nat → List (List Nat)
  | 0, _, _ => []
  | m + 1, s, ns => (if (bt S s && pb (TakesR S ns s)) = true then (ns ++ [s]) :: (if ns.length + 1 = n - 1 then [] else gnL n S m (s + 1) (ns ++ [s])) else []) ++ gnL n S m (s + 1) ns
theorem gnL_succ (n : Nat) (S : Int32) (m s : Nat) (ns : List Nat) : gnL n S (m + 1) s ns = (if (bt S s && pb (TakesR S ns s)) = true then (ns ++ [s]) :: (if ns.length + 1 = n - 1 then [] else gnL n S m (s + 1) (ns ++ [s])) else []) ++ gnL n S m (s + 1) ns := rfl
noncomputable def ndL (n : Nat) (S : Int32) (m s : Nat) (ns : List Nat) : List (List Nat) := ns :: (if ns.length = n - 1 then [] else gnL n S m s ns)
theorem gnL_nd (n : Nat) (S : Int32) (m s : Nat) (ns : List Nat) : gnL n S (m + 1) s ns = (if (bt S s && pb (TakesR S ns s)) = true then ndL n S m (s + 1) (ns ++ [s]) else []) ++ gnL n S m (s + 1) ns := by
  rw [gnL_succ]
  unfold ndL
  rw [List.length_append]
  rfl
def lenN (L : List (List Nat)) (k : Nat) : Nat := (L.filter (fun x => decide (x.length = k))).length
def corL (n : Nat) (L : List (List Nat)) : List (List Nat) := L.filter (fun x => decide (x.length = n - 1))
theorem lenN_app (L L' : List (List Nat)) (k : Nat) : lenN (L ++ L') k = lenN L k + lenN L' k := by unfold lenN; rw [List.filter_append, List.length_append]
theorem corL_app (n : Nat) (L L' : List (List Nat)) : corL n (L ++ L') = corL n L ++ corL n L' := by unfold corL; rw [List.filter_append]
def GA (n : Nat) (acc : List (List Nat)) (Ns C : Nat → Int32) (co : Nat) : Prop := (∀ k, k < 5 → Ns k = nI (lenN acc k)) ∧ co = (corL n acc).length ∧ ∀ i x, (corL n acc)[i]? = some x → C i = chM x
theorem chM_add {ns : List Nat} {s : Nat} (hs : s < 32) : chM ns ||| (nI 1 <<< (nI s &&& 31)) = chM (ns ++ [s]) := by
  apply b_ext
  intro j hj
  unfold chM
  rw [b_or, maskOf_bt _ hj, maskOf_bt _ hj, one_bt hs hj]
  by_cases q1 : j ∈ ns
  · simp [q1]
  · by_cases q2 : j = s <;> simp [q1, q2]
abbrev grH (h : AH) (k fed pl le fi : Int32) (N Ns C : Nat → Int32) (co : Nat) : AH := upH (upH (upH (upH h 80 (ints 5 N)) 84 (ints 5 Ns)) 85 (ints 120 C)) 76 (mob k fed pl le fi (nI co))
theorem grH_N (h : AH) (k fed pl le fi : Int32) (N N' Ns C : Nat → Int32) (co : Nat) : upH (grH h k fed pl le fi N Ns C co) 80 (ints 5 N') = grH h k fed pl le fi N' Ns C co := by
  refine heap_ext rfl (fun q => ?_)
  simp only [upH]
  repeat' split
  all_goals first | rfl | (simp_all)
theorem grH_Ns (h : AH) (k fed pl le fi : Int32) (N Ns Ns' C : Nat → Int32) (co : Nat) : upH (grH h k fed pl le fi N Ns C co) 84 (ints 5 Ns') = grH h k fed pl le fi N Ns' C co := by
  refine heap_ext rfl (fun q => ?_)
  simp only [upH]
  repeat' split
  all_goals first | rfl | (simp_all)
theorem grH_C (h : AH) (k fed pl le fi : Int32) (N Ns C C' : Nat → Int32) (co co' : Nat) : upH (upH (grH h k fed pl le fi N Ns C co) 85 (ints 120 C')) 76 (mob k fed pl le fi (nI co')) = grH h k fed pl le fi N Ns C' co' := by
  refine heap_ext rfl (fun q => ?_)
  simp only [upH]
  repeat' split
  all_goals first | rfl | (simp_all)
theorem GA.inc {n : Nat} {acc : List (List Nat)} {Ns C : Nat → Int32} {co : Nat} (hA : GA n acc Ns C co) {ns : List Nat} (hl : ns.length < 5) (hne : ns.length ≠ n - 1) : GA n (acc ++ [ns]) (upd Ns ns.length (nI (lenN acc ns.length + 1))) C co := by
  have ec : corL n (acc ++ [ns]) = corL n acc := by rw [corL_app]; simp [corL, hne]
  refine ⟨fun k hk => ?_, by rw [ec]; exact hA.2.1, by rw [ec]; exact hA.2.2⟩
  rw [lenN_app]
  by_cases e : k = ns.length
  · subst e; rw [pk_us]; simp [lenN]
  · rw [pk_un e, hA.1 k hk]; simp [lenN, Ne.symm e]
theorem GA.inc2 {n : Nat} {acc : List (List Nat)} {Ns C : Nat → Int32} {co : Nat} (hA : GA n acc Ns C co) {ns : List Nat} (hl : ns.length < 5) (hne : ns.length = n - 1) : GA n (acc ++ [ns]) (upd Ns ns.length (nI (lenN acc ns.length + 1))) (upd C co (chM ns)) (co + 1) := by
  have ec : corL n (acc ++ [ns]) = corL n acc ++ [ns] := by rw [corL_app]; simp [corL, hne]
  refine ⟨fun k hk => ?_, by rw [ec, List.length_append, ← hA.2.1]; rfl, fun i x hx => ?_⟩
  · rw [lenN_app]
    by_cases e : k = ns.length
    · subst e; rw [pk_us]; simp [lenN]
    · rw [pk_un e, hA.1 k hk]; simp [lenN, Ne.symm e]
  · rw [ec] at hx
    rcases Nat.lt_or_ge i (corL n acc).length with q | q
    · rw [List.getElem?_append_left q] at hx
      rw [pk_un (by have := hA.2.1; omega)]
      exact hA.2.2 i x hx
    · have hlt := (List.getElem?_eq_some_iff.mp hx).1
      rw [List.length_append] at hlt
      have : i = (corL n acc).length := by simp at hlt; omega
      subst this
      rw [List.getElem?_append_right (Nat.le_refl _), Nat.sub_self] at hx
      have hz : ns = x := by simpa using hx
      subst hz
      rw [← hA.2.1, pk_us]
section
variable {h : AH} {k fed pl le fi : Int32} {G : Nat → Int32} {n : Nat} {S : Int32}
def GrP (h : AH) (k fed pl le fi : Int32) (n : Nat) (ns : List Nat) (acc : List (List Nat)) (z : (Nat → Int32) × (Nat → Int32) × (Nat → Int32) × Nat) : Prop := (∀ i x, ns[i]? = some x → z.1 i = nI x) ∧ GA n acc z.2.1 z.2.2.1 z.2.2.2
theorem lp_grows (d : Nat) (hg : h.2 77 = ints 106 G) (hn : n ≤ 5) (hn2 : 2 ≤ n) (h0 : G 0 = nI n) (hS : ∀ s, s < 32 → G (1 + s) = b2i (bt S s)) : ∀ (m e s : Nat) (ns : List Nat) (acc : List (List Nat)) (N Ns C : Nat → Int32) (co : Nat) (v1 : Int32), s + m = 2 ^ n - 1 → ns.length + (e + 1) = n - 1 → (∀ t ∈ ns, t < 32) → (∀ i x, ns[i]? = some x → N i = nI x) → GA n acc Ns C co → (corL n (acc ++ gnL n S m s ns)).length ≤ 120 → R (d + e + 3) 193 31 [some (.ref 76), some (.int v1), some (.int (nI ns.length)), some (.int (chM ns)), some (.int (nI s))] [] (grH h k fed pl le fi N Ns C co) (fun r2 h2 => ∃ z : (Nat → Int32) × (Nat → Int32) × (Nat → Int32) × Nat, GrP h k fed pl le fi n ns (acc ++ gnL n S m s ns) z ∧ r2 = none ∧ h2 = grH h k fed pl le fi z.1 z.2.1 z.2.2.1 z.2.2.2) := by
  have kC9 := co_MO_grows
  have hp := pow5 hn
  intro m
  induction m with
  | zero =>
    intro e s ns acc N Ns C co v1 hs hl h32 hN hA hb
    have e0 : acc ++ gnL n S 0 s ns = acc := List.append_nil _
    rw [e0]
    repeat (refine R_s kC9 rfl rfl ?_)
    refine R_cv kC9 rfl rfl rfl rfl (h := grH h k fed pl le fi N Ns C co) rfl (by decide) (sp_MO_whole (d + e + 2) rfl (show (grH h k fed pl le fi N Ns C co).2 77 = ints 106 G from hg) hn h0) ?_
    refine R_ge kC9 rfl (rfl) (rfl) (by omega) (by omega) (fun hc => ?_) (fun hc => ?_)
    · exact R_rv kC9 rfl ⟨(N, Ns, C, co), ⟨hN, hA⟩, rfl, rfl⟩
    · omega
  | succ m ih =>
    intro e s ns acc N Ns C co v1 hs hl h32 hN hA hb
    have hs32 : s < 32 := by omega
    rw [gnL_nd] at hb ⊢
    have cont : ∀ (acc2 : List (List Nat)) (N2 Ns2 C2 : Nat → Int32) (co2 : Nat), (∀ i x, ns[i]? = some x → N2 i = nI x) → GA n acc2 Ns2 C2 co2 → (corL n (acc2 ++ gnL n S m (s + 1) ns)).length ≤ 120 → R (d + e + 3) 193 66 [some (.ref 76), some (.int v1), some (.int (nI ns.length)), some (.int (chM ns)), some (.int (nI s))] [] (grH h k fed pl le fi N2 Ns2 C2 co2) (fun r2 h2 => ∃ z : (Nat → Int32) × (Nat → Int32) × (Nat → Int32) × Nat, GrP h k fed pl le fi n ns (acc2 ++ gnL n S m (s + 1) ns) z ∧ r2 = none ∧ h2 = grH h k fed pl le fi z.1 z.2.1 z.2.2.1 z.2.2.2) := by
      intro acc2 N2 Ns2 C2 co2 q1 q2 q3
      repeat (refine R_s kC9 rfl rfl ?_)
      refine R_g kC9 rfl ?_
      refine (show R (d + e + 3) 193 31 [some (.ref 76), some (.int v1), some (.int (nI ns.length)), some (.int (chM ns)), some (.int (nI s + nI 1))] [] (grH h k fed pl le fi N2 Ns2 C2 co2) _ from ?_)
      rw [nI_add]
      exact ih e (s + 1) ns acc2 N2 Ns2 C2 co2 v1 (by omega) hl h32 q1 q2 q3
    have ho : (grH h k fed pl le fi N Ns C co).2 76 = mob k fed pl le fi (nI co) := rfl
    have hg' : (grH h k fed pl le fi N Ns C co).2 77 = ints 106 G := hg
    have hN' : (grH h k fed pl le fi N Ns C co).2 80 = ints 5 N := rfl
    repeat (refine R_s kC9 rfl rfl ?_)
    refine R_cv kC9 rfl rfl rfl rfl ho (by decide) (sp_MO_whole (d + e + 2) ho hg' hn h0) ?_
    refine R_ge kC9 rfl (rfl) (rfl) (by omega) (by omega) (fun hc => ?_) (fun hc => ?_)
    · omega
    · repeat (refine R_s kC9 rfl rfl ?_)
      refine R_get kC9 rfl (ho) rfl ?_
      repeat (refine R_s kC9 rfl rfl ?_)
      refine R_ild kC9 rfl (hg') (nI_add 1 s) (by omega) (by decide) ?_
      rw [hS s hs32, b2i_nI (bt S s)]
      repeat (refine R_s kC9 rfl rfl ?_)
      refine R_ne kC9 rfl rfl rfl (by cases bt S s <;> decide) (by decide) (fun hd => ?_) (fun hd => ?_)
      · have hbf : bt S s = false := (b2i_ne1 _).mp hd
        rw [hbf, Bool.false_and, if_neg (by decide), List.nil_append] at hb ⊢
        exact cont acc N Ns C co hN hA hb
      · have hbt : bt S s = true := by cases hq : bt S s with | true => rfl | false => rw [hq] at hd; cases hd
        rw [hbt, Bool.true_and] at hb ⊢
        repeat (refine R_s kC9 rfl rfl ?_)
        refine R_cv kC9 rfl rfl rfl rfl ho (by decide) (sp_MO_isNested (d + e + 1) ho hg' hS hN' hN h32 (by omega) hs32) ?_
        refine ZB_eq kC9 rfl (fun hq => ?_) (fun hq => ?_)
        · rw [hq, if_neg (by decide), List.nil_append] at hb ⊢
          exact cont acc N Ns C co hN hA hb
        · rw [hq, if_pos rfl] at hb ⊢
          repeat (refine R_s kC9 rfl rfl ?_)
          refine R_get kC9 rfl (ho) rfl ?_
          repeat (refine R_s kC9 rfl rfl ?_)
          refine R_ist kC9 rfl hN' (by decide) rfl (by omega) (by decide) ?_
          rw [grH_N]
          have hN2 : ∀ i x, (ns ++ [s])[i]? = some x → upd N ns.length (nI s) i = nI x := by
            intro i x hx
            rcases Nat.lt_or_ge i ns.length with q | q
            · rw [List.getElem?_append_left q] at hx
              rw [pk_un (by omega)]
              exact hN i x hx
            · have hlt := (List.getElem?_eq_some_iff.mp hx).1
              rw [List.length_append] at hlt
              have : i = ns.length := by simp at hlt; omega
              subst this
              rw [List.getElem?_append_right (Nat.le_refl _), Nat.sub_self] at hx
              have hz : s = x := by simpa using hx
              subst hz
              rw [pk_us]
          have h322 : ∀ t ∈ ns ++ [s], t < 32 := by
            intro t ht
            rcases List.mem_append.mp ht with q | q
            · exact h32 t q
            · have : t = s := by simpa using q
              omega
          have hl2 : (ns ++ [s]).length + e = n - 1 := by rw [List.length_append]; simp; omega
          have hlen : (ns ++ [s]).length = ns.length + 1 := by rw [List.length_append]; rfl
          have hb2 : (corL n (acc ++ ndL n S m (s + 1) (ns ++ [s]))).length ≤ 120 := by
            rw [← List.append_assoc, corL_app, List.length_append] at hb
            omega
          -- the call
          have call : ∃ z : (Nat → Int32) × (Nat → Int32) × (Nat → Int32) × Nat, GrP h k fed pl le fi n (ns ++ [s]) (acc ++ ndL n S m (s + 1) (ns ++ [s])) z ∧ Cl (d + e + 2) 193 [.ref 76, .int (nI (s + 1)), .int (nI (ns ++ [s]).length), .int (chM (ns ++ [s]))] (grH h k fed pl le fi (upd N ns.length (nI s)) Ns C co) none (grH h k fed pl le fi z.1 z.2.1 z.2.2.1 z.2.2.2) := by
            refine Cl_ex (f := fun _ => none) (g := fun (z : (Nat → Int32) × (Nat → Int32) × (Nat → Int32) × Nat) => grH h k fed pl le fi z.1 z.2.1 z.2.2.1 z.2.2.2) kC9 rfl rfl ?_
            repeat (refine R_s kC9 rfl rfl ?_)
            refine R_get kC9 rfl (h := grH h k fed pl le fi (upd N ns.length (nI s)) Ns C co) rfl rfl ?_
            repeat (refine R_s kC9 rfl rfl ?_)
            refine R_ild kC9 rfl (h := grH h k fed pl le fi (upd N ns.length (nI s)) Ns C co) rfl rfl (by omega) (by decide) ?_
            rw [hA.1 _ (by omega)]
            repeat (refine R_s kC9 rfl rfl ?_)
            refine R_ist kC9 rfl (h := grH h k fed pl le fi (upd N ns.length (nI s)) Ns C co) rfl (by decide) rfl (by omega) (by decide) ?_
            rw [grH_Ns]
            refine (show R (d + e + 2) 193 8 [some (.ref 76), some (.int (nI (s + 1))), some (.int (nI (ns ++ [s]).length)), some (.int (chM (ns ++ [s]))), none] [] (grH h k fed pl le fi (upd N ns.length (nI s)) (upd Ns (ns ++ [s]).length (nI (lenN acc (ns ++ [s]).length) + nI 1)) C co) _ from ?_)
            rw [nI_add (lenN acc (ns ++ [s]).length) 1]
            repeat (refine R_s kC9 rfl rfl ?_)
            refine R_get kC9 rfl (h := grH h k fed pl le fi (upd N ns.length (nI s)) (upd Ns (ns ++ [s]).length (nI (lenN acc (ns ++ [s]).length + 1))) C co) rfl rfl ?_
            repeat (refine R_s kC9 rfl rfl ?_)
            refine R_ild kC9 rfl (show (grH h k fed pl le fi (upd N ns.length (nI s)) (upd Ns (ns ++ [s]).length (nI (lenN acc (ns ++ [s]).length + 1))) C co).2 77 = ints 106 G from hg) (k := 0) rfl (by decide) (by decide) ?_
            rw [h0]
            repeat (refine R_s kC9 rfl rfl ?_)
            refine R_ne kC9 rfl rfl (pk_sub (by omega)) (by omega) (by omega) (fun hne => ?_) (fun heq => ?_)
            · obtain ⟨e', rfl⟩ : ∃ e', e = e' + 1 := ⟨e - 1, by omega⟩
              have end_ : ndL n S m (s + 1) (ns ++ [s]) = (ns ++ [s]) :: gnL n S m (s + 1) (ns ++ [s]) := by unfold ndL; rw [if_neg hne]
              rw [end_, show acc ++ (ns ++ [s]) :: gnL n S m (s + 1) (ns ++ [s]) = (acc ++ [ns ++ [s]]) ++ gnL n S m (s + 1) (ns ++ [s]) by rw [List.append_assoc]; rfl] at hb2 ⊢
              iterate 2 (refine R_s kC9 rfl rfl ?_)
              exact ih e' (s + 1) (ns ++ [s]) (acc ++ [ns ++ [s]]) _ _ C co _ (by omega) (by omega) h322 hN2 (hA.inc (by omega) hne) hb2
            · have end_ : ndL n S m (s + 1) (ns ++ [s]) = [ns ++ [s]] := by unfold ndL; rw [if_pos heq]
              rw [end_] at hb2 ⊢
              have hco : co + 1 ≤ 120 := by
                rw [corL_app, List.length_append, ← hA.2.1] at hb2
                have : (corL n [ns ++ [s]]).length = 1 := by unfold corL; rw [List.filter_cons_of_pos (by exact decide_eq_true heq)]; rfl
                omega
              repeat (refine R_s kC9 rfl rfl ?_)
              refine R_get kC9 rfl (h := grH h k fed pl le fi (upd N ns.length (nI s)) (upd Ns (ns ++ [s]).length (nI (lenN acc (ns ++ [s]).length + 1))) C co) rfl rfl ?_
              repeat (refine R_s kC9 rfl rfl ?_)
              refine R_get kC9 rfl (h := grH h k fed pl le fi (upd N ns.length (nI s)) (upd Ns (ns ++ [s]).length (nI (lenN acc (ns ++ [s]).length + 1))) C co) rfl rfl ?_
              repeat (refine R_s kC9 rfl rfl ?_)
              refine R_ist kC9 rfl (h := grH h k fed pl le fi (upd N ns.length (nI s)) (upd Ns (ns ++ [s]).length (nI (lenN acc (ns ++ [s]).length + 1))) C co) rfl (by decide) (k := co) rfl (by omega) (by decide) ?_
              repeat (refine R_s kC9 rfl rfl ?_)
              refine R_get kC9 rfl (h := upH (grH h k fed pl le fi (upd N ns.length (nI s)) (upd Ns (ns ++ [s]).length (nI (lenN acc (ns ++ [s]).length + 1))) C co) 85 (ints 120 (upd C co (chM (ns ++ [s]))))) rfl rfl ?_
              repeat (refine R_s kC9 rfl rfl ?_)
              refine R_put kC9 rfl (h := upH (grH h k fed pl le fi (upd N ns.length (nI s)) (upd Ns (ns ++ [s]).length (nI (lenN acc (ns ++ [s]).length + 1))) C co) 85 (ints 120 (upd C co (chM (ns ++ [s]))))) rfl (by decide) (Nat.le_of_ble_eq_true rfl) rfl ?_
              refine (show R (d + e + 2) 193 28 _ [] (upH (upH (grH h k fed pl le fi (upd N ns.length (nI s)) (upd Ns (ns ++ [s]).length (nI (lenN acc (ns ++ [s]).length + 1))) C co) 85 (ints 120 (upd C co (chM (ns ++ [s]))))) 76 (mob k fed pl le fi (nI co + nI 1))) _ from ?_)
              rw [nI_add co 1, grH_C]
              exact R_rv kC9 rfl ⟨(_, _, _, co + 1), ⟨hN2, hA.inc2 (by omega) heq⟩, rfl, rfl⟩
          obtain ⟨⟨N3, Ns3, C3, co3⟩, ⟨hz1, hz2⟩, hcl⟩ := call
          dsimp only at hz1 hz2 hcl
          repeat (refine R_s kC9 rfl rfl ?_)
          refine (show R (d + e + 3) 193 65 _ [.int (chM ns ||| (nI 1 <<< (nI s &&& 31))), .int (nI ns.length + nI 1), .int (nI s + nI 1), .ref 76] _ _ from ?_)
          rw [nI_add ns.length 1, nI_add s 1, chM_add hs32, ← hlen]
          refine R_cv kC9 rfl rfl rfl rfl (h := grH h k fed pl le fi (upd N ns.length (nI s)) Ns C co) rfl (by decide) hcl ?_
          have hN3 : ∀ i x, ns[i]? = some x → N3 i = nI x := fun i x hx => hz1 i x (by rw [List.getElem?_append_left (List.getElem?_eq_some_iff.mp hx).1]; exact hx)
          rw [← List.append_assoc] at hb ⊢
          have := cont (acc ++ ndL n S m (s + 1) (ns ++ [s])) N3 Ns3 C3 co3 hN3 hz2 hb
          rw [hlen]
          exact this
/-- all nests -/
noncomputable def allN (n : Nat) (S : Int32) : List (List Nat) := ndL n S (2 ^ n - 2) 1 []
theorem sp_MO_grows (d : Nat) (hg : h.2 77 = ints 106 G) (hn : n ≤ 5) (hn2 : 2 ≤ n) (h0 : G 0 = nI n) (hS : ∀ s, s < 32 → G (1 + s) = b2i (bt S s)) {N Ns C : Nat → Int32} (hNs : ∀ k, k < 5 → Ns k = nI 0) (hb : (corL n (allN n S)).length ≤ 120) : ∃ z : (Nat → Int32) × (Nat → Int32) × (Nat → Int32) × Nat, GA n (allN n S) z.2.1 z.2.2.1 z.2.2.2 ∧ Cl (d + 6) 193 [.ref 76, .int (nI 1), .int (nI 0), .int (nI 0)] (grH h k fed pl le fi N Ns C 0) none (grH h k fed pl le fi z.1 z.2.1 z.2.2.1 z.2.2.2) := by
  have kC9 := co_MO_grows
  refine Cl_ex (f := fun _ => none) (g := fun (z : (Nat → Int32) × (Nat → Int32) × (Nat → Int32) × Nat) => grH h k fed pl le fi z.1 z.2.1 z.2.2.1 z.2.2.2) kC9 rfl rfl ?_
  have hp := pow5 hn
  have hp2 : 4 ≤ 2 ^ n := (Nat.pow_le_pow_right (by omega) hn2 : 2 ^ 2 ≤ 2 ^ n)
  have hA : GA n [] Ns C 0 := ⟨fun k hk => hNs k hk, rfl, fun i x hx => by simp [corL] at hx⟩
  have e1 : allN n S = [] ++ [[]] ++ gnL n S (2 ^ n - 2) 1 [] := by
    unfold allN ndL
    rw [if_neg (by simp; omega)]
    rfl
  repeat (refine R_s kC9 rfl rfl ?_)
  refine R_get kC9 rfl (h := grH h k fed pl le fi N Ns C 0) rfl rfl ?_
  repeat (refine R_s kC9 rfl rfl ?_)
  refine R_ild kC9 rfl (h := grH h k fed pl le fi N Ns C 0) rfl (k := 0) rfl (by omega) (by decide) ?_
  rw [hNs 0 (by omega)]
  repeat (refine R_s kC9 rfl rfl ?_)
  refine R_ist kC9 rfl (h := grH h k fed pl le fi N Ns C 0) rfl (by decide) (k := 0) rfl (by omega) (by decide) ?_
  rw [grH_Ns]
  repeat (refine R_s kC9 rfl rfl ?_)
  refine R_get kC9 rfl (h := grH h k fed pl le fi N (upd Ns 0 (nI 0 + nI 1)) C 0) rfl rfl ?_
  repeat (refine R_s kC9 rfl rfl ?_)
  refine R_ild kC9 rfl (show (grH h k fed pl le fi N (upd Ns 0 (nI 0 + nI 1)) C 0).2 77 = ints 106 G from hg) (k := 0) rfl (by decide) (by decide) ?_
  rw [h0]
  repeat (refine R_s kC9 rfl rfl ?_)
  refine R_ne kC9 rfl (u := 0) rfl (pk_sub (by omega)) (by omega) (by omega) (fun hne => ?_) (fun heq => by omega)
  iterate 2 (refine R_s kC9 rfl rfl ?_)
  have key := lp_grows (h := h) (k := k) (fed := fed) (pl := pl) (le := le) (fi := fi) (G := G) (S := S) (d + (5 - n)) hg hn hn2 h0 hS (2 ^ n - 2) (n - 2) 1 [] ([] ++ [[]]) N (upd Ns 0 (nI 0 + nI 1)) C 0 (nI 1) (by omega) (by simp; omega) (fun t ht => by simp at ht) (fun i x hx => by simp at hx) (by
    have := hA.inc (ns := []) (by simp) (by simp; omega)
    exact this) (by rw [← e1]; exact hb)
  rw [chM_nil, ← e1] at key
  rw [show d + (5 - n) + (n - 2) + 3 = d + 6 by omega] at key
  obtain ⟨fu, r2, h2, hrun, z, hz, er, eh⟩ := key
  exact ⟨fu, r2, h2, hrun, z, hz.2, er, eh⟩
end
