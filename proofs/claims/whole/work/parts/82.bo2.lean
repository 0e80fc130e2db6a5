/-! THE CLASS, 13: Body: grow, countNests -/
theorem els_and (x y : Int32) : els (x &&& y) = (els x).filter (bt y) := by
  unfold els
  rw [List.filter_filter]
  apply List.filter_congr
  intro i _
  rw [b_and, Bool.and_comm]
/-- the nests that come of ns by sets that are open, as the class finds them -/
noncomputable def cgL (n : Nat) (S : Int32) : Nat → List Nat → List Nat → List (List Nat)
  | 0, _, _ => []
  | _ + 1, _, [] => []
  | f + 1, ns, s :: rest => (if (decide (ns.length < 2) || pb (ntP S (chM ns) s)) = true then (ns ++ [s]) :: (if (ns ++ [s]).length = n - 1 then [] else cgL n S f (ns ++ [s]) (rest.filter (pairB S s))) else []) ++ cgL n S f ns rest
noncomputable def cnL (n : Nat) (S : Int32) (f : Nat) (ns op : List Nat) : List (List Nat) := ns :: (if ns.length = n - 1 then [] else cgL n S f ns op)
theorem cgL_nil (n : Nat) (S : Int32) (f : Nat) (ns : List Nat) : cgL n S f ns [] = [] := by cases f <;> rfl
theorem cgL_cons (n : Nat) (S : Int32) (f : Nat) (ns rest : List Nat) (s : Nat) : cgL n S (f + 1) ns (s :: rest) = (if (decide (ns.length < 2) || pb (ntP S (chM ns) s)) = true then cnL n S f (ns ++ [s]) (rest.filter (pairB S s)) else []) ++ cgL n S f ns rest := rfl
theorem cnt_or (P Q : Nat → Bool) : ∀ k, cnt (fun i => P i || Q i) k ≤ cnt P k + cnt Q k
  | 0 => Nat.le_refl _
  | k + 1 => by
    have ih := cnt_or P Q k
    rw [cnt_succ, cnt_succ, cnt_succ]
    cases P k <;> cases Q k <;> simp <;> omega
theorem cnt_is (x : Nat) : ∀ k, cnt (fun i => decide (i = x)) k = if x < k then 1 else 0
  | 0 => rfl
  | k + 1 => by
    rw [cnt_succ, cnt_is x k]
    by_cases e : k = x
    · subst e; simp
    · rw [decide_eq_false e]
      by_cases c : x < k
      · rw [if_pos c, if_pos (by omega)]; rfl
      · rw [if_neg c, if_neg (by omega)]; rfl
theorem cnt_chM : ∀ (ns : List Nat) (k : Nat), k ≤ 32 → cnt (bt (chM ns)) k ≤ ns.length := by
  have : ∀ (ns : List Nat) (k : Nat), cnt (fun i => decide (i ∈ ns)) k ≤ ns.length := by
    intro ns
    induction ns with
    | nil => intro k; induction k with
      | zero => exact Nat.le_refl _
      | succ k ih => rw [cnt_succ]; simpa using ih
    | cons x l ih =>
      intro k
      have e : cnt (fun i => decide (i ∈ x :: l)) k = cnt (fun i => decide (i = x) || decide (i ∈ l)) k := cnt_congr k (fun i _ => by simp)
      have h1 := cnt_or (fun i => decide (i = x)) (fun i => decide (i ∈ l)) k
      have h2 := cnt_is x k
      have h3 := ih k
      rw [e, List.length_cons]
      split at h2 <;> omega
  intro ns k hk
  have e : cnt (bt (chM ns)) k = cnt (fun i => decide (i ∈ ns)) k := cnt_congr k (fun i hi => maskOf_bt _ (by omega))
  rw [e]
  exact this ns k
section
variable {h h' : AH} {o fam n : Nat} {S Lm Fc : Int32} {b : BoS}
theorem sp_BO_addCorner (d : Nat) (hB : BX h o fam n S Lm b) (x : Int32) (hc : b.co < 120) : ∃ h', (frI o (o + 13) h h' ∧ BX h' o fam n S Lm ((b.sNr (upd b.Nr b.co x)).sO b.bs b.ar b.fa (b.co + 1))) ∧ Cl d 67 [.ref o, .int x] h none h' := by
  have kC9 := co_BO_addCorner
  refine Cl_eH kC9 rfl rfl ?_
  have o3 := hB.o3
  repeat (refine R_s kC9 rfl rfl ?_)
  refine R_get kC9 rfl (hB.ob) rfl ?_
  repeat (refine R_s kC9 rfl rfl ?_)
  refine R_get kC9 rfl (hB.ob) rfl ?_
  refine R_alen kC9 rfl hB.nr (by omega) ?_
  refine R_ge kC9 rfl rfl rfl (by omega) (by omega) (fun q => by omega) (fun _ => ?_)
  repeat (refine R_s kC9 rfl rfl ?_)
  refine R_get kC9 rfl (hB.ob) rfl ?_
  repeat (refine R_s kC9 rfl rfl ?_)
  refine R_get kC9 rfl (hB.ob) rfl ?_
  repeat (refine R_s kC9 rfl rfl ?_)
  refine R_ist kC9 rfl hB.nr (by omega) (k := b.co) rfl hc (by omega) ?_
  have hB1 := hB.unr (upd b.Nr b.co x)
  repeat (refine R_s kC9 rfl rfl ?_)
  refine R_get kC9 rfl (hB1.ob) rfl ?_
  repeat (refine R_s kC9 rfl rfl ?_)
  refine R_put kC9 rfl hB1.ob o3 (Nat.le_of_ble_eq_true rfl) rfl ?_
  refine R_rv kC9 rfl ⟨rfl, ((frI.refl _ _ _).up _ (by omega) (by omega)).up _ (by omega) (by omega), ?_⟩
  have := hB1.uob b.bs b.ar b.fa (b.co + 1)
  rw [← nI_add] at this
  exact this
/-- all but the counts and the corners is as it was -/
def kpG (b b' : BoS) : Prop := b'.bs = b.bs ∧ b'.ar = b.ar ∧ b'.fa = b.fa ∧ b'.Fe = b.Fe
theorem lenN_le {acc : List (List Nat)} {k : Nat} (h : acc.length < 2 ^ 31) : lenN acc k < 2 ^ 31 := Nat.lt_of_le_of_lt (List.length_filter_le _ _) h
theorem lc_grow (d : Nat) (hn : n ≤ 5) (hn2 : 2 ≤ n) : ∀ (f e : Nat) (rest : Int32) (ns : List Nat) (acc : List (List Nat)) (h : AH) (b : BoS) (w2 : Int32) (w6 : Option Value), BX h o fam n S Lm b → (∀ q, 1 ≤ q → q < 32 → b.Fe q = felM S Fc q) → (els rest).length ≤ f → (∀ t ∈ els rest, 1 ≤ t ∧ bt Fc t = true) → ns.length + (e + 1) = n - 1 → (∀ t ∈ ns, t < 32) → GA n acc b.Nc b.Nr b.co → (corL n (acc ++ cgL n S f ns (els rest))).length ≤ 120 → (w6 = none ∨ ∃ x : Int32, w6 = some (.int x)) → R (d + e + 3) 66 32 [some (.ref o), some (.int (chM ns)), some (.int w2), some (.int (nI ns.length)), some (.int rest), some (.int (nI (els rest).length)), w6] [] h (fun r2 h2 => r2 = none ∧ ∃ b2, frI o (o + 13) h h2 ∧ BX h2 o fam n S Lm b2 ∧ kpG b b2 ∧ GA n (acc ++ cgL n S f ns (els rest)) b2.Nc b2.Nr b2.co) := by
  have kC9 := co_BO_grow
  intro f
  induction f with
  | zero =>
    intro e rest ns acc h b w2 w6 hB hFe2 hf hop hl h32 hA hb hw
    have e0 : els rest = [] := List.length_eq_zero_iff.mp (by omega)
    rw [e0]
    repeat (refine R_s kC9 rfl rfl ?_)
    refine Z_le kC9 rfl (u := 0) rfl (by omega) (fun _ => ?_) (fun hc => ?_)
    · refine R_rv kC9 rfl ⟨rfl, b, frI.refl _ _ _, hB, ⟨rfl, rfl, rfl, rfl⟩, ?_⟩
      rw [cgL_nil, List.append_nil]
      exact hA
    · exact absurd hc (Nat.lt_irrefl 0)
  | succ f ih =>
    intro e rest ns acc h b w2 w6 hB hFe2 hf hop hl h32 hA hb hw
    have o3 := hB.o3
    cases he : els rest with
    | nil =>
      repeat (refine R_s kC9 rfl rfl ?_)
      refine Z_le kC9 rfl (u := 0) rfl (by omega) (fun _ => ?_) (fun hc => ?_)
      · refine R_rv kC9 rfl ⟨rfl, b, frI.refl _ _ _, hB, ⟨rfl, rfl, rfl, rfl⟩, ?_⟩
        rw [cgL_nil, List.append_nil]
        exact hA
      · exact absurd hc (Nat.lt_irrefl 0)
    | cons s l =>
      have htl := els_tail he
      have hl32 : l.length < 32 := by
        have q1 := els_len rest
        have q2 := cnt_le (bt rest) 32
        rw [he] at q1
        rw [List.length_cons] at q1
        omega
      have hs : 1 ≤ s ∧ bt Fc s = true := hop s (by rw [he]; exact List.mem_cons_self)
      have hs32 : s < 32 := els32 rest s (by rw [he]; exact List.mem_cons_self)
      have hll : (els (rest &&& (rest - nI 1))).length ≤ f := by
        rw [htl]
        rw [he, List.length_cons] at hf
        omega
      have hopl : ∀ t ∈ els (rest &&& (rest - nI 1)), 1 ≤ t ∧ bt Fc t = true := fun t ht => hop t (by rw [he]; rw [htl] at ht; exact List.mem_cons_of_mem _ ht)
      rw [he, cgL_cons] at hb
      rw [cgL_cons]
      have cont : ∀ (acc2 : List (List Nat)) (h2 : AH) (b2 : BoS), frI o (o + 13) h h2 → BX h2 o fam n S Lm b2 → kpG b b2 → GA n acc2 b2.Nc b2.Nr b2.co → (corL n (acc2 ++ cgL n S f ns l)).length ≤ 120 → R (d + e + 3) 66 68 [some (.ref o), some (.int (chM ns)), some (.int w2), some (.int (nI ns.length)), some (.int (rest &&& (rest - nI 1))), some (.int (nI (s :: l).length)), some (.int (nI s))] [] h2 (fun r2 h3 => r2 = none ∧ ∃ b3, frI o (o + 13) h h3 ∧ BX h3 o fam n S Lm b3 ∧ kpG b b3 ∧ GA n (acc2 ++ cgL n S f ns l) b3.Nc b3.Nr b3.co) := by
        intro acc2 h2 b2 q1 q2 q3 q4 q5
        repeat (refine R_s kC9 rfl rfl ?_)
        refine R_g kC9 rfl ?_
        refine (show R (d + e + 3) 66 32 [some (.ref o), some (.int (chM ns)), some (.int w2), some (.int (nI ns.length)), some (.int (rest &&& (rest - nI 1))), some (.int (nI (l.length + 1) + (-1))), some (.int (nI s))] [] h2 _ from ?_)
        rw [pk_m1]
        have key := ih e (rest &&& (rest - nI 1)) ns acc2 h2 b2 w2 (some (.int (nI s))) q2 (fun q z1 z2 => by rw [q3.2.2.2]; exact hFe2 q z1 z2) hll hopl hl h32 q4 (by rw [htl]; exact q5) (Or.inr ⟨_, rfl⟩)
        rw [htl] at key
        obtain ⟨m, r, h3, hr, k1, b3, k2, k3, k4, k5⟩ := key
        exact ⟨m, r, h3, hr, k1, b3, q1.trans k2, k3, ⟨k4.1.trans q3.1, k4.2.1.trans q3.2.1, k4.2.2.1.trans q3.2.2.1, k4.2.2.2.trans q3.2.2.2⟩, k5⟩
      -- the call
      have go : (decide (ns.length < 2) || pb (ntP S (chM ns) s)) = true → R (d + e + 3) 66 52 [some (.ref o), some (.int (chM ns)), some (.int w2), some (.int (nI ns.length)), some (.int (rest &&& (rest - nI 1))), some (.int (nI (s :: l).length)), some (.int (nI s))] [] h (fun r2 h3 => r2 = none ∧ ∃ b3, frI o (o + 13) h h3 ∧ BX h3 o fam n S Lm b3 ∧ kpG b b3 ∧ GA n (acc ++ ((if (decide (ns.length < 2) || pb (ntP S (chM ns) s)) = true then cnL n S f (ns ++ [s]) (l.filter (pairB S s)) else []) ++ cgL n S f ns l)) b3.Nc b3.Nr b3.co) := by
        intro hq
        rw [if_pos hq] at hb ⊢
        have hlen : (ns ++ [s]).length = ns.length + 1 := by rw [List.length_append]; rfl
        have h322 : ∀ t ∈ ns ++ [s], t < 32 := by
          intro t ht
          rcases List.mem_append.mp ht with q | q
          · exact h32 t q
          · have : t = s := by simpa using q
            omega
        have hopn : els ((rest &&& (rest - nI 1)) &&& b.Fe s) = l.filter (pairB S s) := by
          rw [els_and, htl, hFe2 s hs.1 hs32]
          apply List.filter_congr
          intro t ht
          have hsrt := els_sorted rest
          rw [he] at hsrt
          have hst : s < t := (List.pairwise_cons.mp hsrt).1 t ht
          have hFt := (hop t (by rw [he]; exact List.mem_cons_of_mem _ ht)).2
          unfold felM
          rw [maskOf_bt _ (els32 rest t (by rw [he]; exact List.mem_cons_of_mem _ ht)), decide_eq_true hst, hs.2, hFt]
          simp
        have hb2 : (corL n (acc ++ cnL n S f (ns ++ [s]) (l.filter (pairB S s)))).length ≤ 120 := by
          rw [← List.append_assoc, corL_app, List.length_append] at hb
          omega
        have call : ∃ h', (∃ b2, frI o (o + 13) h h' ∧ BX h' o fam n S Lm b2 ∧ kpG b b2 ∧ GA n (acc ++ cnL n S f (ns ++ [s]) (l.filter (pairB S s))) b2.Nc b2.Nr b2.co) ∧ Cl (d + e + 2) 66 [.ref o, .int (chM (ns ++ [s])), .int ((rest &&& (rest - nI 1)) &&& b.Fe s), .int (nI (ns.length + 1))] h none h' := by
          refine Cl_eH kC9 rfl rfl ?_
          repeat (refine R_s kC9 rfl rfl ?_)
          refine Z_lt kC9 rfl (rfl) (by omega) (fun hc => ?_) (fun hc => ?_)
          · omega
          · repeat (refine R_s kC9 rfl rfl ?_)
            refine R_get kC9 rfl (hB.ob) rfl ?_
            refine R_alen kC9 rfl hB.nc (by omega) ?_
            refine R_lt kC9 rfl rfl rfl (by omega) (by omega) (fun _ => ?_) (fun q => by omega)
            repeat (refine R_s kC9 rfl rfl ?_)
            refine R_get kC9 rfl (hB.ob) rfl ?_
            repeat (refine R_s kC9 rfl rfl ?_)
            refine R_ild kC9 rfl hB.nc (k := ns.length + 1) rfl (by omega) (by omega) ?_
            repeat (refine R_s kC9 rfl rfl ?_)
            refine R_ist kC9 rfl hB.nc (by omega) (k := ns.length + 1) rfl (by omega) (by omega) ?_
            have e1 : b.Nc (ns.length + 1) + nI 1 = nI (lenN acc (ns ++ [s]).length + 1) := by rw [hA.1 _ (by omega), nI_add, hlen]
            refine (show R (d + e + 2) 66 16 [some (.ref o), some (.int (chM (ns ++ [s]))), some (.int ((rest &&& (rest - nI 1)) &&& b.Fe s)), some (.int (nI (ns.length + 1))), none, none, none] [] (upH h (o + 1) (ints 5 (upd b.Nc (ns.length + 1) (b.Nc (ns.length + 1) + nI 1)))) _ from ?_)
            rw [e1, ← hlen]
            have hB1 := hB.unc (upd b.Nc (ns ++ [s]).length (nI (lenN acc (ns ++ [s]).length + 1)))
            have hf1 : frI o (o + 13) h (upH h (o + 1) (ints 5 (upd b.Nc (ns ++ [s]).length (nI (lenN acc (ns ++ [s]).length + 1))))) := (frI.refl _ _ _).up _ (by omega) (by omega)
            repeat (refine R_s kC9 rfl rfl ?_)
            refine R_get kC9 rfl (hB1.ob) rfl ?_
            refine R_get kC9 rfl (hB1.fc.2) rfl ?_
            repeat (refine R_s kC9 rfl rfl ?_)
            refine R_ne kC9 rfl rfl (pk_sub (by omega)) (by omega) (by omega) (fun hne => ?_) (fun heq => ?_)
            · obtain ⟨e', rfl⟩ : ∃ e', e = e' + 1 := ⟨e - 1, by omega⟩
              have end_ : cnL n S f (ns ++ [s]) (l.filter (pairB S s)) = (ns ++ [s]) :: cgL n S f (ns ++ [s]) (l.filter (pairB S s)) := by unfold cnL; rw [if_neg hne]
              rw [end_, show acc ++ (ns ++ [s]) :: cgL n S f (ns ++ [s]) (l.filter (pairB S s)) = (acc ++ [ns ++ [s]]) ++ cgL n S f (ns ++ [s]) (l.filter (pairB S s)) by rw [List.append_assoc]; rfl] at hb2 ⊢
              repeat (refine R_s kC9 rfl rfl ?_)
              refine R_cs kC9 rfl rfl rfl rfl (sp_JI_bitCount (d + (e' + 1) + 1) _ _) ?_
              iterate 1 (refine R_s kC9 rfl rfl ?_)
              rw [← els_len]
              have key := ih e' ((rest &&& (rest - nI 1)) &&& b.Fe s) (ns ++ [s]) (acc ++ [ns ++ [s]]) _ _ ((rest &&& (rest - nI 1)) &&& b.Fe s) none hB1 hFe2 (by rw [hopn]; exact Nat.le_trans (List.length_filter_le _ _) (by rw [htl] at hll; exact hll)) (fun t ht => ?_) (by omega) h322 (hA.inc (by omega) hne) (by rw [hopn]; exact hb2) (Or.inl rfl)
              · rw [hopn] at key
                obtain ⟨m, r, h3, hr, k1, b3, k2, k3, k4, k5⟩ := key
                rw [hopn]
                exact ⟨m, r, h3, hr, k1, b3, hf1.trans k2, k3, k4, k5⟩
              · rw [els_and] at ht
                exact hopl t (List.mem_filter.mp ht).1
            · have end_ : cnL n S f (ns ++ [s]) (l.filter (pairB S s)) = [ns ++ [s]] := by unfold cnL; rw [if_pos heq]
              rw [end_] at hb2 ⊢
              have hco : b.co + 1 ≤ 120 := by
                rw [corL_app, List.length_append, ← hA.2.1] at hb2
                have : (corL n [ns ++ [s]]).length = 1 := by unfold corL; rw [List.filter_cons_of_pos (by exact decide_eq_true heq)]; rfl
                omega
              obtain ⟨h3, ⟨k1, k2⟩, k3⟩ := sp_BO_addCorner (d + e + 1) hB1 (chM (ns ++ [s])) (show (b.sNc (upd b.Nc (ns ++ [s]).length (nI (lenN acc (ns ++ [s]).length + 1)))).co < 120 from hco)
              repeat (refine R_s kC9 rfl rfl ?_)
              refine R_cv kC9 rfl rfl rfl rfl hB1.ob o3 k3 ?_
              exact R_rv kC9 rfl ⟨rfl, _, hf1.trans k1, k2, ⟨rfl, rfl, rfl, rfl⟩, hA.inc2 (by omega) heq⟩
        obtain ⟨h2, ⟨b2, q1, q2, q3, q4⟩, hcl⟩ := call
        repeat (refine R_s kC9 rfl rfl ?_)
        refine R_get kC9 rfl (hB.ob) rfl ?_
        repeat (refine R_s kC9 rfl rfl ?_)
        refine R_ild kC9 rfl hB.fe (k := s) rfl hs32 (by omega) ?_
        repeat (refine R_s kC9 rfl rfl ?_)
        refine (show R (d + e + 3) 66 67 _ [.int (nI ns.length + nI 1), .int ((rest &&& (rest - nI 1)) &&& b.Fe s), .int (chM ns ||| (nI 1 <<< (nI s &&& 31))), .ref o] h _ from ?_)
        rw [nI_add ns.length 1, chM_add hs32]
        refine R_cs kC9 rfl rfl rfl rfl (hcl) ?_
        rw [← List.append_assoc] at hb ⊢
        exact cont _ h2 b2 q1 q2 q3 q4 hb
      have body : R (d + e + 3) 66 43 [some (.ref o), some (.int (chM ns)), some (.int w2), some (.int (nI ns.length)), some (.int (rest &&& (rest - nI 1))), some (.int (nI (s :: l).length)), some (.int (nI s))] [] h (fun r2 h3 => r2 = none ∧ ∃ b3, frI o (o + 13) h h3 ∧ BX h3 o fam n S Lm b3 ∧ kpG b b3 ∧ GA n (acc ++ ((if (decide (ns.length < 2) || pb (ntP S (chM ns) s)) = true then cnL n S f (ns ++ [s]) (l.filter (pairB S s)) else []) ++ cgL n S f ns l)) b3.Nc b3.Nr b3.co) := by
        repeat (refine R_s kC9 rfl rfl ?_)
        refine R_lt kC9 rfl rfl rfl (by omega) (by omega) (fun hd => ?_) (fun hd => ?_)
        · exact go (by rw [decide_eq_true hd]; rfl)
        · repeat (refine R_s kC9 rfl rfl ?_)
          refine R_get kC9 rfl (hB.ob) rfl ?_
          repeat (refine R_s kC9 rfl rfl ?_)
          refine R_cv kC9 rfl rfl rfl rfl hB.fc.2 hB.fc.1 (sp_FA_nestTakes (d + e) hB.fc (N := chM ns) ?_ hs32) ?_
          · have := cnt_chM ns 32 (Nat.le_refl _)
            omega
          · refine ZB_eq kC9 rfl (fun hi => ?_) (fun hi => ?_)
            · have e9 : (decide (ns.length < 2) || pb (ntP S (chM ns) s)) = false := by rw [decide_eq_false (by omega), hi]; rfl
              rw [e9, if_neg (by decide), List.nil_append] at hb ⊢
              exact cont acc h b (frI.refl _ _ _) hB ⟨rfl, rfl, rfl, rfl⟩ hA hb
            · exact go (by rw [hi, Bool.or_true])
      repeat (refine R_s kC9 rfl rfl ?_)
      refine Z_le kC9 rfl (u := l.length + 1) rfl (by omega) (fun hc => by omega) (fun hc => ?_)
      repeat (refine R_s kC9 rfl rfl ?_)
      refine R_cs kC9 rfl rfl rfl rfl (sp_NB_leastOf (d + e + 1) he) ?_
      rcases hw with rfl | ⟨x, rfl⟩
      · iterate 7 (refine R_s kC9 rfl rfl ?_)
        exact body
      · iterate 7 (refine R_s kC9 rfl rfl ?_)
        exact body
end
