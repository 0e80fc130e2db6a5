/-! THE CLASS, 23: Meetings: roundsToAll; Body: greatestSteps -/
section
variable {h h' : AH} {q : Nat} {N deg f : Nat} {Fl : NF} {nb : Nat → Nat → Nat}
theorem lo_self {N c : Nat} (hc : c < N) : loM N (fun e => decide (e = c)) = if c < 64 then (1 : Int64) <<< ((nI c).toInt64 &&& 63) else 0 := by
  unfold loM
  split
  · rename_i h64
    rw [one_64 h64]
    apply mk64_congr
    intro i _
    dsimp only
    by_cases e : i = c
    · subst e; rw [decide_eq_true hc]; rfl
    · rw [decide_eq_false e, Bool.and_false]
  · rw [← mk64_0]
    apply mk64_congr
    intro i _
    dsimp only
    rw [decide_eq_false (show ¬ i = c by omega), Bool.and_false]
theorem hi_self {N c : Nat} (hc : c < N) (hN : N ≤ 120) : hiM N (fun e => decide (e = c)) = if c < 64 then 0 else (1 : Int64) <<< ((nI (c - 64)).toInt64 &&& 63) := by
  unfold hiM
  split
  · rw [← mk64_0]
    apply mk64_congr
    intro i _
    dsimp only
    rw [decide_eq_false (show ¬ i + 64 = c by omega), Bool.and_false]
  · rw [one_64 (by omega)]
    apply mk64_congr
    intro i _
    dsimp only
    by_cases e : i = c - 64
    · rw [decide_eq_true e, decide_eq_true (show i + 64 < N by omega), decide_eq_true (show i + 64 = c by omega)]; rfl
    · rw [decide_eq_false e, decide_eq_false (show ¬ i + 64 = c by omega), Bool.and_false]
theorem lc_meet0 (d : Nat) (Q : Option Value → AH → Prop) (hN : N ≤ 120) (kk : ∀ (h2 : AH) (L H L2 H2 : Nat → Int64), frI (q + 1) (q + 4) h h2 → MeC h2 q L H L2 H2 → kwR N (knB nb deg 0) L H → R d 2 51 [some (.ref q), some (.ref f), some (.int (nI N)), some (.int (nI deg)), some (.long (loM N (fun _ => true))), none, some (.long (hiM N (fun _ => true))), none, some (.int (nI N))] [] h2 Q) : ∀ (m c : Nat) (h2 : AH) (L H L2 H2 : Nat → Int64), c + m = N → frI (q + 1) (q + 4) h h2 → MeC h2 q L H L2 H2 → (∀ e, e < c → L e = loM N (knB nb deg 0 e) ∧ H e = hiM N (knB nb deg 0 e)) → R d 2 6 [some (.ref q), some (.ref f), some (.int (nI N)), some (.int (nI deg)), some (.long (loM N (fun e => decide (e < c)))), none, some (.long (hiM N (fun e => decide (e < c)))), none, some (.int (nI c))] [] h2 Q := by
  have kC9 := co_ME_roundsToAll
  intro m
  induction m with
  | zero =>
    intro c h2 L H L2 H2 hc hf hM hk
    have : c = N := by omega
    subst this
    repeat (refine R_s kC9 rfl rfl ?_)
    refine R_ge kC9 rfl (rfl) (rfl) (by omega) (by omega) (fun hc => ?_) (fun hc => ?_)
    · have key := kk h2 L H L2 H2 hf hM hk
      have e1 : loM c (fun _ => true) = loM c (fun e => decide (e < c)) := mk64_congr (fun i _ => by dsimp only; cases decide (i < c) <;> rfl)
      have e2 : hiM c (fun _ => true) = hiM c (fun e => decide (e < c)) := mk64_congr (fun i _ => by dsimp only; cases decide (i + 64 < c) <;> rfl)
      rw [e1, e2] at key
      exact key
    · omega
  | succ m ih =>
    intro c h2 L H L2 H2 hc hf hM hk
    have q3 := hM.1
    have hcN : c < N := by omega
    have s1 := lo_self hcN
    have s2 := hi_self hcN hN
    have fin : ∀ (h3 : AH) (L3 H3 : Nat → Int64), h3 = upH (upH h2 (q + 1) (longs 120 (vp_updL L c (loM N (fun e => decide (e = c)))))) (q + 2) (longs 120 (vp_updL H c (hiM N (fun e => decide (e = c))))) → R d 2 35 [some (.ref q), some (.ref f), some (.int (nI N)), some (.int (nI deg)), some (.long (loM N (fun e => decide (e < c)))), none, some (.long (hiM N (fun e => decide (e < c)))), none, some (.int (nI c))] [] h3 Q := by
      rintro h3 L3 H3 rfl
      have hM2 := (hM.u1 (vp_updL L c (loM N (fun e => decide (e = c))))).u2 (vp_updL H c (hiM N (fun e => decide (e = c))))
      repeat (refine R_s kC9 rfl rfl ?_)
      refine R_get kC9 rfl (hM2.2.1) rfl ?_
      repeat (refine R_s kC9 rfl rfl ?_)
      refine R_lld kC9 rfl hM2.2.2.1 (by omega) (k := c) rfl (by omega) (by omega) ?_
      rw [updL_s]
      repeat (refine R_s kC9 rfl rfl ?_)
      refine R_get kC9 rfl (hM2.2.1) rfl ?_
      repeat (refine R_s kC9 rfl rfl ?_)
      refine R_lld kC9 rfl hM2.2.2.2.1 (by omega) (k := c) rfl (by omega) (by omega) ?_
      rw [updL_s]
      repeat (refine R_s kC9 rfl rfl ?_)
      refine R_g kC9 rfl ?_
      refine (show R d 2 6 [some (.ref q), some (.ref f), some (.int (nI N)), some (.int (nI deg)), some (.long (loM N (fun e => decide (e < c)) ||| loM N (fun e => decide (e = c)))), none, some (.long (hiM N (fun e => decide (e < c)) ||| hiM N (fun e => decide (e = c)))), none, some (.int (nI c + nI 1))] [] _ Q from ?_)
      rw [nI_add, loM_or, hiM_or]
      have e : (fun e => decide (e < c) || decide (e = c)) = fun e => decide (e < c + 1) := by
        funext e
        by_cases c1 : e < c
        · rw [decide_eq_true c1, decide_eq_true (show e < c + 1 by omega)]; rfl
        · by_cases c2 : e = c
          · rw [decide_eq_true c2, decide_eq_true (show e < c + 1 by omega), Bool.or_true]
          · rw [decide_eq_false c1, decide_eq_false c2, decide_eq_false (show ¬ e < c + 1 by omega)]; rfl
      rw [e]
      refine ih (c + 1) _ _ _ L2 H2 (by omega) ((hf.up _ (by omega) (by omega)).up _ (by omega) (by omega)) hM2 (fun e he => ?_)
      by_cases ec : e = c
      · subst ec; rw [updL_s, updL_s]; exact ⟨rfl, rfl⟩
      · rw [updL_n ec, updL_n ec]; exact hk e (by omega)
    have mid : ∀ h3 : AH, h3 = upH h2 (q + 1) (longs 120 (vp_updL L c (loM N (fun e => decide (e = c))))) → R d 2 21 [some (.ref q), some (.ref f), some (.int (nI N)), some (.int (nI deg)), some (.long (loM N (fun e => decide (e < c)))), none, some (.long (hiM N (fun e => decide (e < c)))), none, some (.int (nI c))] [] h3 Q := by
      rintro h3 rfl
      have hM1 := hM.u1 (vp_updL L c (loM N (fun e => decide (e = c))))
      repeat (refine R_s kC9 rfl rfl ?_)
      refine R_get kC9 rfl (hM1.2.1) rfl ?_
      repeat (refine R_s kC9 rfl rfl ?_)
      refine R_ge kC9 rfl rfl rfl (by omega) (by omega) (fun hc_1 => ?_) (fun hc_1 => ?_)
      · repeat (refine R_s kC9 rfl rfl ?_)
        refine (show R d 2 34 [some (.ref q), some (.ref f), some (.int (nI N)), some (.int (nI deg)), some (.long (loM N (fun e => decide (e < c)))), none, some (.long (hiM N (fun e => decide (e < c)))), none, some (.int (nI c))] [.long ((1 : Int64) <<< ((nI c - nI 64).toInt64 &&& 63)), .int (nI c), .ref (q + 2)] _ Q from ?_)
        rw [pk_sub hc_1]
        rw [if_neg (by omega)] at s2
        rw [← s2]
        refine R_lst kC9 rfl hM1.2.2.2.1 (by omega) (k := c) rfl (by omega) (by omega) ?_
        exact fin _ L H rfl
      · repeat (refine R_s kC9 rfl rfl ?_)
        refine R_g kC9 rfl ?_
        refine (show R d 2 34 [some (.ref q), some (.ref f), some (.int (nI N)), some (.int (nI deg)), some (.long (loM N (fun e => decide (e < c)))), none, some (.long (hiM N (fun e => decide (e < c)))), none, some (.int (nI c))] [.long 0, .int (nI c), .ref (q + 2)] _ Q from ?_)
        rw [if_pos hc_1] at s2
        rw [← s2]
        refine R_lst kC9 rfl hM1.2.2.2.1 (by omega) (k := c) rfl (by omega) (by omega) ?_
        exact fin _ L H rfl
    repeat (refine R_s kC9 rfl rfl ?_)
    refine R_ge kC9 rfl rfl rfl (by omega) (by omega) (fun z => by omega) (fun _ => ?_)
    repeat (refine R_s kC9 rfl rfl ?_)
    refine R_get kC9 rfl (hM.2.1) rfl ?_
    repeat (refine R_s kC9 rfl rfl ?_)
    refine R_ge kC9 rfl rfl rfl (by omega) (by omega) (fun hd => ?_) (fun hd => ?_)
    · repeat (refine R_s kC9 rfl rfl ?_)
      refine (show R d 2 20 [some (.ref q), some (.ref f), some (.int (nI N)), some (.int (nI deg)), some (.long (loM N (fun e => decide (e < c)))), none, some (.long (hiM N (fun e => decide (e < c)))), none, some (.int (nI c))] [.long 0, .int (nI c), .ref (q + 1)] _ Q from ?_)
      rw [if_neg (by omega)] at s1
      rw [← s1]
      refine R_lst kC9 rfl hM.2.2.1 (by omega) (k := c) rfl (by omega) (by omega) ?_
      exact mid _ rfl
    · repeat (refine R_s kC9 rfl rfl ?_)
      refine R_g kC9 rfl ?_
      refine (show R d 2 20 [some (.ref q), some (.ref f), some (.int (nI N)), some (.int (nI deg)), some (.long (loM N (fun e => decide (e < c)))), none, some (.long (hiM N (fun e => decide (e < c)))), none, some (.int (nI c))] [.long ((1 : Int64) <<< ((nI c).toInt64 &&& 63)), .int (nI c), .ref (q + 1)] _ Q from ?_)
      rw [if_pos hd] at s1
      rw [← s1]
      refine R_lst kC9 rfl hM.2.2.1 (by omega) (k := c) rfl (by omega) (by omega) ?_
      exact mid _ rfl
theorem lc_meet1 (d : Nat) (hfq : f < q ∨ q + 4 < f) (hN : N ≤ 120) (hdeg : deg ≤ 4) (hnb : ∀ c k, c < N → k < deg → nb c k < N ∧ Fl (4 * c + k) = nI (nb c k)) : ∀ (m r : Nat) (h2 : AH) (L H L2 H2 : Nat → Int64), r + m = N → frI (q + 1) (q + 4) h h2 → MeC h2 q L H L2 H2 → h2.2 f = ints 480 Fl → kwR N (knB nb deg r) L H → R (d + 1) 2 53 [some (.ref q), some (.ref f), some (.int (nI N)), some (.int (nI deg)), some (.long (loM N (fun _ => true))), none, some (.long (hiM N (fun _ => true))), none, some (.int (nI r))] [] h2 (fun r2 h3 => r2 = some (.int (nI (mrF nb deg N m r))) ∧ frI (q + 1) (q + 4) h h3 ∧ ∃ L3 H3 L4 H4, MeC h3 q L3 H3 L4 H4) := by
  have kC9 := co_ME_roundsToAll
  intro m
  induction m with
  | zero =>
    intro r h2 L H L2 H2 hr hf hM hFl hk
    repeat (refine R_s kC9 rfl rfl ?_)
    refine R_ge kC9 rfl (rfl) (rfl) (by omega) (by omega) (fun hc => ?_) (fun hc => ?_)
    · repeat (refine R_s kC9 rfl rfl ?_)
      exact R_ri kC9 rfl ⟨rfl, hf, L, H, L2, H2, hM⟩
    · omega
  | succ m ih =>
    intro r h2 L H L2 H2 hr hf hM hFl hk
    have e9 : mrF nb deg N (m + 1) r = if pb (fuP nb deg N r) = true then r else mrF nb deg N m (r + 1) := rfl
    rw [e9]
    have eF : pb (∀ e, e < N → L e = loM N (fun _ => true) ∧ H e = hiM N (fun _ => true)) = pb (fuP nb deg N r) := by
      apply bool_iff
      rw [pb_true, pb_true]
      constructor
      · intro z c hc e he
        obtain ⟨z1, z2⟩ := z c hc
        rw [(hk c hc).1] at z1
        rw [(hk c hc).2] at z2
        exact (lohi (by omega)).mp ⟨z1, z2⟩ e he
      · intro z c hc
        rw [(hk c hc).1, (hk c hc).2]
        exact (lohi (by omega)).mpr (fun e he => z c hc e he)
    repeat (refine R_s kC9 rfl rfl ?_)
    refine R_ge kC9 rfl (rfl) (rfl) (by omega) (by omega) (fun hc => ?_) (fun hc => ?_)
    · omega
    · repeat (refine R_s kC9 rfl rfl ?_)
      refine R_cv kC9 rfl rfl rfl rfl hM.2.1 hM.1 (sp_ME_allKnow d hM hN _ _) ?_
      rw [eF]
      refine ZB_ne kC9 rfl (fun hd => ?_) (fun hd => ?_)
      · rw [if_pos hd]
        repeat (refine R_s kC9 rfl rfl ?_)
        exact R_ri kC9 rfl ⟨rfl, hf, L, H, L2, H2, hM⟩
      · rw [if_neg (by rw [hd]; decide)]
        repeat (refine R_s kC9 rfl rfl ?_)
        obtain ⟨h3, ⟨L3, H3, L4, H4, z1, z2, z3⟩, cl3⟩ := sp_ME_tell d hM hFl hfq hN hdeg hnb hk
        refine R_cv kC9 rfl rfl rfl rfl hM.2.1 hM.1 cl3 ?_
        repeat (refine R_s kC9 rfl rfl ?_)
        refine R_g kC9 rfl ?_
        refine (show R (d + 1) 2 53 [some (.ref q), some (.ref f), some (.int (nI N)), some (.int (nI deg)), some (.long (loM N (fun _ => true))), none, some (.long (hiM N (fun _ => true))), none, some (.int (nI r + nI 1))] [] h3 _ from ?_)
        rw [nI_add]
        exact ih (r + 1) h3 L3 H3 L4 H4 (by omega) (hf.trans z1) z2 ((z1.2 f (by omega)).trans hFl) z3
theorem sp_ME_roundsToAll (d : Nat) {L H L2 H2 : Nat → Int64} (hM : MeC h q L H L2 H2) (hFl : h.2 f = ints 480 Fl) (hfq : f < q ∨ q + 4 < f) (hN : N ≤ 120) (hdeg : deg ≤ 4) (hnb : ∀ c k, c < N → k < deg → nb c k < N ∧ Fl (4 * c + k) = nI (nb c k)) : ∃ h', (frI (q + 1) (q + 4) h h' ∧ ∃ L3 H3 L4 H4, MeC h' q L3 H3 L4 H4) ∧ Cl (d + 1) 2 [.ref q, .ref f, .int (nI N), .int (nI deg)] h (some (.int (nI (mrF nb deg N N 0)))) h' := by
  have kC9 := co_ME_roundsToAll
  refine Cl_eH kC9 rfl rfl ?_
  iterate 6 (refine R_s kC9 rfl rfl ?_)
  have key := lc_meet0 (h := h) (q := q) (f := f) (N := N) (deg := deg) (nb := nb) (d + 1) (fun r2 h' => r2 = some (.int (nI (mrF nb deg N N 0))) ∧ frI (q + 1) (q + 4) h h' ∧ ∃ L3 H3 L4 H4, MeC h' q L3 H3 L4 H4) hN (fun h2 L3 H3 L4 H4 z1 z2 z3 => ?_) N 0 h L H L2 H2 (by omega) (frI.refl _ _ _) hM (fun e he => by omega)
  · have e1 : loM N (fun e => decide (e < 0)) = 0 := by
      rw [← mk64_0]
      exact mk64_congr (fun i _ => by simp)
    have e2 : hiM N (fun e => decide (e < 0)) = 0 := by
      rw [← mk64_0]
      exact mk64_congr (fun i _ => by simp)
    rw [e1, e2] at key
    exact key
  · iterate 2 (refine R_s kC9 rfl rfl ?_)
    exact lc_meet1 (h := h) d hfq hN hdeg hnb N 0 h2 L3 H3 L4 H4 (by omega) z1 z2 ((z1.2 f (by omega)).trans hFl) z3
end
section
variable {h h' : AH} {o fam n : Nat} {S Lm : Int32} {b : BoS}
/-- FARTHEST, by rounds, is what the steps say -/
def faOK (n : Nat) (S : Int32) : Prop := mrF (nrN n S) (n - 1) (cornS n S).length (cornS n S).length 0 = farN n S
theorem sp_BO_greatestSteps (d : Nat) (hP : BP h o fam n S Lm b) (hfar : faOK n S) (hf31 : farN n S < 2 ^ 31) : ∃ h', BQ h o fam n S Lm h' ∧ Cl (d + 9) 85 [.ref o] h (some (.int (nI (farN n S)))) h' := by
  have kC9 := co_BO_greatestSteps
  have hN := hP.N
  have hn := hP.2.1.2.1
  have hn2 := hP.2.1.1
  have o3 := hP.1.o3
  refine Cl_eH kC9 rfl rfl ?_
  obtain ⟨h1, b1, f1, A1, cl1⟩ := hP.arr d
  repeat (refine R_s kC9 rfl rfl ?_)
  refine R_cv kC9 rfl rfl rfl rfl hP.1.ob hP.1.o3 cl1 ?_
  repeat (refine R_s kC9 rfl rfl ?_)
  refine R_get kC9 rfl (A1.1.ob) rfl ?_
  rcases A1.2.2.2.1 with hfa | hfa
  · rw [hfa]
    refine Zr_ge kC9 rfl (fun z => absurd z (by decide)) (fun _ => ?_)
    repeat (refine R_s kC9 rfl rfl ?_)
    refine R_get kC9 rfl (A1.1.ob) rfl ?_
    repeat (refine R_s kC9 rfl rfl ?_)
    refine R_get kC9 rfl (A1.1.ob) rfl ?_
    repeat (refine R_s kC9 rfl rfl ?_)
    refine R_get kC9 rfl (A1.1.ob) rfl ?_
    repeat (refine R_s kC9 rfl rfl ?_)
    refine R_get kC9 rfl (A1.1.ob) rfl ?_
    refine R_get kC9 rfl (A1.1.fc.2) rfl ?_
    repeat (refine R_s kC9 rfl rfl ?_)
    obtain ⟨F0, e0⟩ := A1.1.l0
    obtain ⟨F1, e1⟩ := A1.1.l1
    obtain ⟨F2, e2⟩ := A1.1.l2
    obtain ⟨F3, e3⟩ := A1.1.l3
    have hM : MeC h1 (o + 9) F0 F1 F2 F3 := ⟨by omega, A1.1.me, e0, e1, e2, e3⟩
    obtain ⟨h2, ⟨z1, L3, H3, L4, H4, z2⟩, cl2⟩ := sp_ME_roundsToAll (nb := nrN n S) (deg := n - 1) (N := (cornS n S).length) (d + 7) hM A1.1.fl (by omega) hN (by omega) (fun c k hc hk => ⟨(hP.2.2.2.1.1.at hc hk).1, A1.fl hc hk⟩)
    refine (show R (d + 9) 85 17 [some (.ref o)] [.int (nI n - nI 1), .int (nI b1.co), .ref (o + 6), .ref (o + 9), .ref o] h1 _ from ?_)
    rw [pk_sub (by omega), A1.co]
    refine R_cv kC9 rfl rfl rfl rfl A1.1.me (by omega) cl2 ?_
    rw [hfar]
    have k : ∀ x, x ≤ o + 9 → h2.2 x = h1.2 x := fun x hx => z1.2 x (by omega)
    have hd := A1.1.dis
    have B2 : BX h2 o fam n S Lm b1 := ⟨A1.1.o3, hd, ⟨A1.1.fc.1, (z1.2 fam (by omega)).trans A1.1.fc.2⟩, (k _ (by omega)).trans A1.1.hv, (k _ (by omega)).trans A1.1.tn, (k _ (by omega)).trans A1.1.ob, (k _ (by omega)).trans A1.1.nc, (k _ (by omega)).trans A1.1.fe, (k _ (by omega)).trans A1.1.nr, (k _ (by omega)).trans A1.1.pl, (k _ (by omega)).trans A1.1.wo, (k _ (by omega)).trans A1.1.fl, (k _ (by omega)).trans A1.1.di, (k _ (by omega)).trans A1.1.qu, (k _ (by omega)).trans A1.1.me, ⟨L3, z2.2.2.1⟩, ⟨H3, z2.2.2.2.1⟩, ⟨L4, z2.2.2.2.2.1⟩, ⟨H4, z2.2.2.2.2.2⟩⟩
    refine R_put kC9 rfl B2.ob o3 (Nat.le_of_ble_eq_true rfl) rfl ?_
    have B3 := B2.uob b1.bs b1.ar (nI (farN n S)) b1.co
    refine (show R (d + 9) 85 19 [some (.ref o)] [] (upH h2 o (bob o fam b1.bs b1.ar (nI (farN n S)) (nI b1.co))) _ from ?_)
    repeat (refine R_s kC9 rfl rfl ?_)
    refine R_get kC9 rfl (B3.ob) rfl ?_
    refine R_ri kC9 rfl ⟨rfl, _, (f1.trans (z1.mono (by omega) (by omega))).up _ (by omega) (by omega), B3, Or.inr ⟨n, S, hP.2.1, ⟨A1.2.1.1, A1.2.1.2.1, A1.2.1.2.2⟩, Or.inr ⟨A1.2.2.1, Or.inr rfl, A1.2.2.2.2.1, A1.2.2.2.2.2⟩⟩⟩
  · rw [hfa]
    refine Zr_ge kC9 rfl (fun _ => ?_) (fun z => absurd (nI_pos' hf31) z)
    repeat (refine R_s kC9 rfl rfl ?_)
    refine R_get kC9 rfl (A1.1.ob) rfl ?_
    rw [hfa]
    exact R_ri kC9 rfl ⟨rfl, b1, f1, A1.1, A1.iv hP.2.1⟩
end
