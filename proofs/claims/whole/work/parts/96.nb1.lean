/-! THE CLASS, 26: NestedBodies: what holds of it between calls -/
abbrev nbo (im : Bool) : AC := objA 0 [.ref 4, .ref 18, .int (b2i im), .ref 32, .ref 46, .ref 47, .ref 61, .ref 63]
abbrev tpsC : AC := .inl (tpT, 6, .inr (.inr (.inr (.inr (fun t => if t < 6 then some (64 + 2 * t) else none)))))
def NBI (h : AH) (U K : US) (im : Bool) (tx : List Nat) (T : TPS) : Prop := (h.2 0 = ints 5 havF ∧ h.2 1 = ints 5 tenF) ∧ h.2 3 = nbo im ∧ SetC h 4 U ∧ SetC h 18 K ∧ (∃ b, BX h 32 5 U.1 U.2.1 U.2.2.1 b ∧ bIv b) ∧ (∃ n S Lm b, BX h 47 46 n S Lm b ∧ bIv b) ∧ TexC h 61 tx ∧ h.2 63 = tpsC ∧ ∀ t, t < 6 → TapC h (64 + 2 * t) (T t)
theorem BX.re {h h' : AH} {o fam n n' : Nat} {S Lm S' Lm' : Int32} {b : BoS} (hB : BX h o fam n S Lm b) (hk : ∀ q, o ≤ q → q ≤ o + 13 → h'.2 q = h.2 q) (h0 : h'.2 0 = h.2 0) (h1 : h'.2 1 = h.2 1) (hF : FamC h' fam n' S' Lm') : BX h' o fam n' S' Lm' b := by
  obtain ⟨F0, e0⟩ := hB.l0
  obtain ⟨F1, e1⟩ := hB.l1
  obtain ⟨F2, e2⟩ := hB.l2
  obtain ⟨F3, e3⟩ := hB.l3
  exact ⟨hB.o3, hB.dis, hF, h0.trans hB.hv, h1.trans hB.tn, (hk _ (by omega) (by omega)).trans hB.ob, (hk _ (by omega) (by omega)).trans hB.nc, (hk _ (by omega) (by omega)).trans hB.fe, (hk _ (by omega) (by omega)).trans hB.nr, (hk _ (by omega) (by omega)).trans hB.pl, (hk _ (by omega) (by omega)).trans hB.wo, (hk _ (by omega) (by omega)).trans hB.fl, (hk _ (by omega) (by omega)).trans hB.di, (hk _ (by omega) (by omega)).trans hB.qu, (hk _ (by omega) (by omega)).trans hB.me, ⟨F0, (hk _ (by omega) (by omega)).trans e0⟩, ⟨F1, (hk _ (by omega) (by omega)).trans e1⟩, ⟨F2, (hk _ (by omega) (by omega)).trans e2⟩, ⟨F3, (hk _ (by omega) (by omega)).trans e3⟩⟩
theorem TexC.fr {a b o : Nat} {h h' : AH} {tx : List Nat} (hT : TexC h o tx) (x : frI a b h h') (hd : o + 1 < a ∨ b < o) : TexC h' o tx := by
  obtain ⟨a0, a1, F, a2, a3⟩ := hT
  exact ⟨a0, x.get a1 (by omega), F, x.get a2 (by omega), a3⟩
section
variable {h h' : AH} {U K V : US} {im : Bool} {tx : List Nat} {T : TPS}
theorem NBI.h0 (hI : NBI h U K im tx T) : h.2 0 = ints 5 havF := hI.1.1
theorem NBI.h1 (hI : NBI h U K im tx T) : h.2 1 = ints 5 tenF := hI.1.2
theorem NBI.ob (hI : NBI h U K im tx T) : h.2 3 = nbo im := hI.2.1
theorem NBI.st (hI : NBI h U K im tx T) : SetC h 4 U := hI.2.2.1
theorem NBI.kp (hI : NBI h U K im tx T) : SetC h 18 K := hI.2.2.2.1
theorem NBI.txt (hI : NBI h U K im tx T) : TexC h 61 tx := hI.2.2.2.2.2.2.1
theorem NBI.tps (hI : NBI h U K im tx T) : h.2 63 = tpsC := hI.2.2.2.2.2.2.2.1
theorem NBI.tp (hI : NBI h U K im tx T) {t : Nat} (ht : t < 6) : TapC h (64 + 2 * t) (T t) := hI.2.2.2.2.2.2.2.2 t ht
theorem NBI.set (hI : NBI h U K im tx T) (x : frI 4 17 h h') (hS : SetC h' 4 V) : NBI h' V K im tx T := by
  obtain ⟨⟨a0, a1⟩, a2, a3, a4, ⟨b, a5, a6⟩, ⟨n, S, Lm, b', a7, a8⟩, a9, a10, a11⟩ := hI
  exact ⟨⟨x.get a0 (by omega), x.get a1 (by omega)⟩, x.get a2 (by omega), hS, a4.fr x (by omega), ⟨b, a5.re (fun q q1 q2 => x.2 q (by omega)) (x.2 0 (by omega)) (x.2 1 (by omega)) hS.2.2.1, a6⟩, ⟨n, S, Lm, b', a7.re (fun q q1 q2 => x.2 q (by omega)) (x.2 0 (by omega)) (x.2 1 (by omega)) (a7.fc.fr x (by omega)), a8⟩, a9.fr x (by omega), x.get a10 (by omega), fun t ht => (a11 t ht).fr x (by omega)⟩
theorem NBI.body (hI : NBI h U K im tx T) (x : frI 32 45 h h') (hB : ∃ b, BX h' 32 5 U.1 U.2.1 U.2.2.1 b ∧ bIv b) : NBI h' U K im tx T := by
  obtain ⟨⟨a0, a1⟩, a2, a3, a4, ⟨b, a5, a6⟩, ⟨n, S, Lm, b', a7, a8⟩, a9, a10, a11⟩ := hI
  exact ⟨⟨x.get a0 (by omega), x.get a1 (by omega)⟩, x.get a2 (by omega), a3.fr x (by omega), a4.fr x (by omega), hB, ⟨n, S, Lm, b', a7.re (fun q q1 q2 => x.2 q (by omega)) (x.2 0 (by omega)) (x.2 1 (by omega)) (a7.fc.fr x (by omega)), a8⟩, a9.fr x (by omega), x.get a10 (by omega), fun t ht => (a11 t ht).fr x (by omega)⟩
theorem NBI.trial (hI : NBI h U K im tx T) (x : frI 46 60 h h') (hB : ∃ n S Lm b, BX h' 47 46 n S Lm b ∧ bIv b) : NBI h' U K im tx T := by
  obtain ⟨⟨a0, a1⟩, a2, a3, a4, ⟨b, a5, a6⟩, ⟨n, S, Lm, b', a7, a8⟩, a9, a10, a11⟩ := hI
  have S2 := a3.fr x (by omega)
  exact ⟨⟨x.get a0 (by omega), x.get a1 (by omega)⟩, x.get a2 (by omega), S2, a4.fr x (by omega), ⟨b, a5.re (fun q q1 q2 => x.2 q (by omega)) (x.2 0 (by omega)) (x.2 1 (by omega)) S2.2.2.1, a6⟩, hB, a9.fr x (by omega), x.get a10 (by omega), fun t ht => (a11 t ht).fr x (by omega)⟩
theorem NBI.keep (hI : NBI h U K im tx T) (x : frI 18 31 h h') (hS : SetC h' 18 V) : NBI h' U V im tx T := by
  obtain ⟨⟨a0, a1⟩, a2, a3, a4, ⟨b, a5, a6⟩, ⟨n, S, Lm, b', a7, a8⟩, a9, a10, a11⟩ := hI
  have S2 := a3.fr x (by omega)
  exact ⟨⟨x.get a0 (by omega), x.get a1 (by omega)⟩, x.get a2 (by omega), S2, hS, ⟨b, a5.re (fun q q1 q2 => x.2 q (by omega)) (x.2 0 (by omega)) (x.2 1 (by omega)) S2.2.2.1, a6⟩, ⟨n, S, Lm, b', a7.re (fun q q1 q2 => x.2 q (by omega)) (x.2 0 (by omega)) (x.2 1 (by omega)) (a7.fc.fr x (by omega)), a8⟩, a9.fr x (by omega), x.get a10 (by omega), fun t ht => (a11 t ht).fr x (by omega)⟩
theorem NBI.text (hI : NBI h U K im tx T) {tx' : List Nat} (x : frI 61 62 h h') (hS : TexC h' 61 tx') : NBI h' U K im tx' T := by
  obtain ⟨⟨a0, a1⟩, a2, a3, a4, ⟨b, a5, a6⟩, ⟨n, S, Lm, b', a7, a8⟩, a9, a10, a11⟩ := hI
  have S2 := a3.fr x (by omega)
  exact ⟨⟨x.get a0 (by omega), x.get a1 (by omega)⟩, x.get a2 (by omega), S2, a4.fr x (by omega), ⟨b, a5.re (fun q q1 q2 => x.2 q (by omega)) (x.2 0 (by omega)) (x.2 1 (by omega)) S2.2.2.1, a6⟩, ⟨n, S, Lm, b', a7.re (fun q q1 q2 => x.2 q (by omega)) (x.2 0 (by omega)) (x.2 1 (by omega)) (a7.fc.fr x (by omega)), a8⟩, hS, x.get a10 (by omega), fun t ht => (a11 t ht).fr x (by omega)⟩
theorem NBI.tape (hI : NBI h U K im tx T) {t : Nat} (ht : t < 6) {z : Int32 × List Int64} (x : frI (64 + 2 * t) (65 + 2 * t) h h') (hS : TapC h' (64 + 2 * t) z) : NBI h' U K im tx (updT T t z) := by
  obtain ⟨⟨a0, a1⟩, a2, a3, a4, ⟨b, a5, a6⟩, ⟨n, S, Lm, b', a7, a8⟩, a9, a10, a11⟩ := hI
  have S2 := a3.fr x (by omega)
  refine ⟨⟨x.get a0 (by omega), x.get a1 (by omega)⟩, x.get a2 (by omega), S2, a4.fr x (by omega), ⟨b, a5.re (fun q q1 q2 => x.2 q (by omega)) (x.2 0 (by omega)) (x.2 1 (by omega)) S2.2.2.1, a6⟩, ⟨n, S, Lm, b', a7.re (fun q q1 q2 => x.2 q (by omega)) (x.2 0 (by omega)) (x.2 1 (by omega)) (a7.fc.fr x (by omega)), a8⟩, a9.fr x (by omega), x.get a10 (by omega), fun t2 ht2 => ?_⟩
  by_cases e : t2 = t
  · subst e; rw [updT_s]; exact hS
  · rw [updT_n _ _ e]; exact (a11 t2 ht2).fr x (by omega)
theorem NBI.obj (hI : NBI h U K im tx T) (im' : Bool) : NBI (upH h 3 (nbo im')) U K im' tx T := by
  have x : frI 3 3 h (upH h 3 (nbo im')) := (frI.refl _ _ _).up _ (by omega) (by omega)
  obtain ⟨⟨a0, a1⟩, a2, a3, a4, ⟨b, a5, a6⟩, ⟨n, S, Lm, b', a7, a8⟩, a9, a10, a11⟩ := hI
  have S2 := a3.fr x (by omega)
  exact ⟨⟨x.get a0 (by omega), x.get a1 (by omega)⟩, upH_at _ _ _, S2, a4.fr x (by omega), ⟨b, a5.re (fun q q1 q2 => x.2 q (by omega)) (x.2 0 (by omega)) (x.2 1 (by omega)) S2.2.2.1, a6⟩, ⟨n, S, Lm, b', a7.re (fun q q1 q2 => x.2 q (by omega)) (x.2 0 (by omega)) (x.2 1 (by omega)) (a7.fc.fr x (by omega)), a8⟩, a9.fr x (by omega), x.get a10 (by omega), fun t ht => (a11 t ht).fr x (by omega)⟩
/-- what a call leaves -/
def NQ (h : AH) (U K : US) (im : Bool) (tx : List Nat) (T : TPS) (h' : AH) : Prop := frI 3 75 h h' ∧ NBI h' U K im tx T
theorem NQ.rfl' (hI : NBI h U K im tx T) : NQ h U K im tx T h := ⟨frI.refl _ _ _, hI⟩
theorem knd_iff {v : Int32} : (0 ≤ v.toInt ∧ v.toInt ≤ 6) ↔ ¬ v < 0 ∧ ¬ nI 7 ≤ v := by
  rw [tI_lt, tI_le, tI_0, show (nI 7).toInt = 7 by decide]
  omega
theorem sp_NB_isKind (d : Nat) (v : Int32) : Cl d 132 [.int v] h (some (.int (b2i (decide (0 ≤ v.toInt ∧ v.toInt ≤ 6))))) h := by
  have kC9 := co_NB_isKind
  refine Cl_of kC9 rfl rfl ?_
  repeat (refine R_s kC9 rfl rfl ?_)
  refine Zr_lt kC9 rfl (fun hc => ?_) (fun hc => ?_)
  · repeat (refine R_s kC9 rfl rfl ?_)
    exact R_rz kC9 rfl (Or.inl rfl) ⟨ri_eq (b2i_f (decide_eq_false (fun z => (knd_iff.mp z).1 hc))), rfl⟩
  · repeat (refine R_s kC9 rfl rfl ?_)
    refine Rr_ge kC9 rfl (fun hd => ?_) (fun hd => ?_)
    · repeat (refine R_s kC9 rfl rfl ?_)
      exact R_rz kC9 rfl (Or.inl rfl) ⟨ri_eq (b2i_f (decide_eq_false (fun z => (knd_iff.mp z).2 hd))), rfl⟩
    · repeat (refine R_s kC9 rfl rfl ?_)
      refine R_g kC9 rfl ?_
      exact R_rz kC9 rfl (Or.inr rfl) ⟨ri_eq (b2i_t (decide_eq_true (knd_iff.mpr ⟨hc, hd⟩))), rfl⟩
theorem SetC.fam1 (hS : SetC h 4 U) (n : Nat) (S Lm : Int32) : SetC (faH h 5 n S Lm) 4 (n, S, Lm, U.2.2.2) ∧ frI 4 17 h (faH h 5 n S Lm) := ⟨hS.fam ((frI.refl _ _ _).up _ (by omega) (by omega)) ⟨by omega, upH_at _ _ _⟩, (frI.refl _ _ _).up _ (by omega) (by omega)⟩
/-- the family is new, nothing is chosen -/
theorem nb_empty (d : Nat) (hS : SetC h 4 U) : ∃ h', (frI 4 17 h h' ∧ SetC h' 4 (U.1, U.2.1, U.2.2.1, [], U.2.2.2.2)) ∧ Cl d 7 [.ref 6] h (some (.int (nI 0))) h' := by
  obtain ⟨h', ⟨f1, R1⟩, c1⟩ := cl_RO_empty d hS.2.2.2.1
  exact ⟨h', ⟨f1.mono (by omega) (by omega), hS.pick f1 R1⟩, c1⟩
theorem nb_points (d : Nat) (hI : NBI h U K im tx T) (v : Int32) : ∃ h', NQ h (specPoints U v).2 K im tx T h' ∧ Cl (d + 4) 93 [.ref 3, .int v] h (some (.int (specPoints U v).1)) h' := by
  have kC9 := co_NB_points
  refine Cl_eH kC9 rfl rfl ?_
  unfold specPoints
  by_cases hv : 2 ≤ v.toInt ∧ v.toInt ≤ 5
  · rw [if_pos hv]
    obtain ⟨k, k1, k2, k3, rfl⟩ := rng_nI (v := v) (a := 2) (b := 5) (by omega)
    rw [nI_clamp k3]
    repeat (refine R_s kC9 rfl rfl ?_)
    refine R_lt kC9 rfl rfl rfl (by omega) (by omega) (fun z => by omega) (fun _ => ?_)
    repeat (refine R_s kC9 rfl rfl ?_)
    refine R_le kC9 rfl rfl rfl (by omega) (by omega) (fun _ => ?_) (fun z => by omega)
    repeat (refine R_s kC9 rfl rfl ?_)
    refine R_get kC9 rfl (hI.ob) rfl ?_
    refine R_get kC9 rfl (hI.st.2.1) rfl ?_
    refine R_get kC9 rfl (hI.st.2.2.1.2) rfl ?_
    repeat (refine R_s kC9 rfl rfl ?_)
    refine R_get kC9 rfl (hI.ob) rfl ?_
    refine R_get kC9 rfl (hI.st.2.1) rfl ?_
    repeat (refine R_s kC9 rfl rfl ?_)
    refine R_cv kC9 rfl rfl rfl rfl hI.st.2.2.1.2 (by omega) (sp_FA_restart d hI.st.2.2.1 (m := k) (by omega)) ?_
    obtain ⟨S1, x1⟩ := hI.st.fam1 k (makeS k 0 0) 0
    have I1 := hI.set x1 S1
    repeat (refine R_s kC9 rfl rfl ?_)
    refine R_get kC9 rfl I1.ob rfl ?_
    refine R_get kC9 rfl I1.st.2.1 rfl ?_
    obtain ⟨h2, ⟨x2, S2⟩, c2⟩ := nb_empty (d + 3) I1.st
    refine R_cv kC9 rfl rfl rfl rfl I1.st.2.2.2.1.2.2.2.1 (by omega) c2 ?_
    repeat (refine R_s kC9 rfl rfl ?_)
    exact R_ri kC9 rfl ⟨rfl, (x1.trans x2).mono (by omega) (by omega), I1.set x2 S2⟩
  · rw [if_neg hv]
    have a2 : (nI 2).toInt = 2 := by decide
    have a5 : (nI 5).toInt = 5 := by decide
    repeat (refine R_s kC9 rfl rfl ?_)
    refine Rr_lt kC9 rfl (fun hd => ?_) (fun hd => ?_)
    · repeat (refine R_s kC9 rfl rfl ?_)
      exact R_ri kC9 rfl ⟨rfl, NQ.rfl' hI⟩
    · repeat (refine R_s kC9 rfl rfl ?_)
      rw [tI_lt, a2] at hd
      refine Rr_le kC9 rfl (fun he => ?_) (fun he => ?_)
      · rw [tI_le, a5] at he
        omega
      · repeat (refine R_s kC9 rfl rfl ?_)
        exact R_ri kC9 rfl ⟨rfl, NQ.rfl' hI⟩
theorem nb_make (d : Nat) (hI : NBI h U K im tx T) (hn : U.1 ≤ 5) (hL : Lin U.1 U.2.2.1) (v : Int32) : ∃ h', NQ h (specMake U v).2 K im tx T h' ∧ Cl (d + 3) 94 [.ref 3, .int v] h (some (.int (specMake U v).1)) h' := by
  have kC9 := co_NB_make
  refine Cl_eH kC9 rfl rfl ?_
  unfold specMake
  repeat (refine R_s kC9 rfl rfl ?_)
  refine R_cs kC9 rfl rfl rfl rfl (sp_NB_isKind (d + 2) v) ?_
  refine ZB_ne kC9 rfl (fun hd => ?_) (fun hd => ?_)
  · have hv := of_decide_eq_true hd
    rw [if_pos hv]
    obtain ⟨k, k1, k2, k3, rfl⟩ := rng_nI (v := v) (a := 0) (b := 6) (by omega)
    rw [nI_clamp k3]
    repeat (refine R_s kC9 rfl rfl ?_)
    refine R_get kC9 rfl (hI.ob) rfl ?_
    refine R_get kC9 rfl (hI.st.2.1) rfl ?_
    repeat (refine R_s kC9 rfl rfl ?_)
    refine R_cv kC9 rfl rfl rfl rfl hI.st.2.2.1.2 (by omega) (sp_FA_build d hI.st.2.2.1 hn hL (k := k) (by omega)) ?_
    obtain ⟨S1, x1⟩ := hI.st.fam1 U.1 (makeS U.1 U.2.2.1 k) U.2.2.1
    have I1 := hI.set x1 S1
    repeat (refine R_s kC9 rfl rfl ?_)
    refine R_get kC9 rfl I1.ob rfl ?_
    refine R_get kC9 rfl I1.st.2.1 rfl ?_
    obtain ⟨h2, ⟨x2, S2⟩, c2⟩ := nb_empty (d + 2) I1.st
    refine R_cv kC9 rfl rfl rfl rfl I1.st.2.2.2.1.2.2.2.1 (by omega) c2 ?_
    have I2 := I1.set x2 S2
    repeat (refine R_s kC9 rfl rfl ?_)
    refine R_get kC9 rfl I2.ob rfl ?_
    refine R_get kC9 rfl I2.st.2.1 rfl ?_
    refine R_cv kC9 rfl rfl rfl rfl I2.st.2.2.1.2 (by omega) (sp_FA_size (d + 1) I2.st.2.2.1) ?_
    exact R_ri kC9 rfl ⟨rfl, (x1.trans x2).mono (by omega) (by omega), I2⟩
  · rw [if_neg (of_decide_eq_false hd)]
    repeat (refine R_s kC9 rfl rfl ?_)
    exact R_ri kC9 rfl ⟨rfl, NQ.rfl' hI⟩
theorem nb_comes (d : Nat) (hI : NBI h U K im tx T) (hF : Fam U.1 U.2.1) (v : Int32) : ∃ h', NQ h (specComes U v).2 K im tx T h' ∧ Cl (d + 4) 95 [.ref 3, .int v] h (some (.int (specComes U v).1)) h' := by
  have kC9 := co_NB_comes
  have hn := hF.2.1
  refine Cl_eH kC9 rfl rfl ?_
  unfold specComes
  repeat (refine R_s kC9 rfl rfl ?_)
  refine R_get kC9 rfl (hI.ob) rfl ?_
  refine R_get kC9 rfl (hI.st.2.1) rfl ?_
  repeat (refine R_s kC9 rfl rfl ?_)
  refine R_cv kC9 rfl rfl rfl rfl hI.st.2.2.1.2 (by omega) (sp_FA_isSet (d + 2) hI.st.2.2.1 hn v) ?_
  refine ZB_ne kC9 rfl (fun hd => ?_) (fun hd => ?_)
  · rw [if_pos hd]
    obtain ⟨s, s1, s2, s3, rfl⟩ := setB_of hn hd
    rw [nI_clamp (by omega)]
    have last : ∀ (h2 : AH) (S' : Int32) (ch' : List Nat), frI 4 17 h h2 → NBI h2 (U.1, S', U.2.2.1, ch', U.2.2.2.2) K im tx T → R (d + 4) 95 24 [some (.ref 3), some (.int (nI s))] [] h2 (fun r2 h3 => r2 = some (.int (nI (els S').length)) ∧ NQ h (U.1, S', U.2.2.1, ch', U.2.2.2.2) K im tx T h3) := by
      intro h2 S' ch' x I2
      repeat (refine R_s kC9 rfl rfl ?_)
      refine R_get kC9 rfl I2.ob rfl ?_
      refine R_get kC9 rfl I2.st.2.1 rfl ?_
      refine R_cv kC9 rfl rfl rfl rfl I2.st.2.2.1.2 (by omega) (sp_FA_size (d + 2) I2.st.2.2.1) ?_
      exact R_ri kC9 rfl ⟨rfl, x.mono (by omega) (by omega), I2⟩
    repeat (refine R_s kC9 rfl rfl ?_)
    refine R_get kC9 rfl (hI.ob) rfl ?_
    refine R_get kC9 rfl (hI.st.2.1) rfl ?_
    repeat (refine R_s kC9 rfl rfl ?_)
    refine R_cv kC9 rfl rfl rfl rfl hI.st.2.2.1.2 (by omega) (sp_FA_holds (d + 1) hI.st.2.2.1 hn (nI s)) ?_
    rw [inF_nI (by omega), decide_eq_true (show 1 ≤ s ∧ s < 2 ^ U.1 from ⟨s1, s2⟩), Bool.true_and]
    refine ZB_ne kC9 rfl (fun he => ?_) (fun he => ?_)
    · rw [if_pos he]
      have e1 : joinS U.2.1 s = U.2.1 := by unfold joinS; rw [if_pos he]
      rw [e1]
      exact last h U.2.1 U.2.2.2.1 (frI.refl _ _ _) hI
    · rw [if_neg (by rw [he]; decide)]
      repeat (refine R_s kC9 rfl rfl ?_)
      refine R_get kC9 rfl (hI.ob) rfl ?_
      refine R_get kC9 rfl (hI.st.2.1) rfl ?_
      repeat (refine R_s kC9 rfl rfl ?_)
      refine R_cv kC9 rfl rfl rfl rfl hI.st.2.2.1.2 (by omega) (sp_FA_join d hI.st.2.2.1 hF s1 s2) ?_
      rw [joinS_eq hF s3]
      obtain ⟨S1, x1⟩ := hI.st.fam1 U.1 (joinS U.2.1 s) U.2.2.1
      have I1 := hI.set x1 S1
      repeat (refine R_s kC9 rfl rfl ?_)
      refine R_get kC9 rfl I1.ob rfl ?_
      refine R_get kC9 rfl I1.st.2.1 rfl ?_
      obtain ⟨h2, ⟨x2, S2⟩, c2⟩ := nb_empty (d + 3) I1.st
      refine R_cv kC9 rfl rfl rfl rfl I1.st.2.2.2.1.2.2.2.1 (by omega) c2 ?_
      iterate 1 (refine R_s kC9 rfl rfl ?_)
      exact last h2 (joinS U.2.1 s) [] (x1.trans x2) (I1.set x2 S2)
  · rw [if_neg (by rw [hd]; decide)]
    repeat (refine R_s kC9 rfl rfl ?_)
    exact R_ri kC9 rfl ⟨rfl, NQ.rfl' hI⟩
theorem nb_goes (d : Nat) (hI : NBI h U K im tx T) (hF : Fam U.1 U.2.1) (v : Int32) : ∃ h', NQ h (specGoes U v).2 K im tx T h' ∧ Cl (d + 3) 96 [.ref 3, .int v] h (some (.int (specGoes U v).1)) h' := by
  have kC9 := co_NB_goes
  have hn := hF.2.1
  refine Cl_eH kC9 rfl rfl ?_
  unfold specGoes
  repeat (refine R_s kC9 rfl rfl ?_)
  refine R_get kC9 rfl (hI.ob) rfl ?_
  refine R_get kC9 rfl (hI.st.2.1) rfl ?_
  repeat (refine R_s kC9 rfl rfl ?_)
  refine R_cv kC9 rfl rfl rfl rfl hI.st.2.2.1.2 (by omega) (sp_FA_holds d hI.st.2.2.1 hn v) ?_
  refine ZB_ne kC9 rfl (fun hd => ?_) (fun hd => ?_)
  · rw [if_pos hd]
    unfold inF at hd
    rw [Bool.and_eq_true] at hd
    obtain ⟨s, s1, s2, s3, rfl⟩ := setB_of hn hd.1
    rw [nI_clamp (by omega)] at hd ⊢
    repeat (refine R_s kC9 rfl rfl ?_)
    refine R_get kC9 rfl (hI.ob) rfl ?_
    refine R_get kC9 rfl (hI.st.2.1) rfl ?_
    repeat (refine R_s kC9 rfl rfl ?_)
    refine R_cv kC9 rfl rfl rfl rfl hI.st.2.2.1.2 (by omega) (sp_FA_canLose (d + 1) hI.st.2.2.1 hI.h0 hF hd.2 s1 s3) ?_
    refine ZB_ne kC9 rfl (fun he => ?_) (fun he => ?_)
    · rw [if_pos he]
      repeat (refine R_s kC9 rfl rfl ?_)
      refine R_get kC9 rfl (hI.ob) rfl ?_
      refine R_get kC9 rfl (hI.st.2.1) rfl ?_
      repeat (refine R_s kC9 rfl rfl ?_)
      refine R_cv kC9 rfl rfl rfl rfl hI.st.2.2.1.2 (by omega) (sp_FA_lose (d + 2) hI.st.2.2.1 s3) ?_
      obtain ⟨S1, x1⟩ := hI.st.fam1 U.1 (delM U.2.1 s) U.2.2.1
      have I1 := hI.set x1 S1
      repeat (refine R_s kC9 rfl rfl ?_)
      refine R_get kC9 rfl I1.ob rfl ?_
      refine R_get kC9 rfl I1.st.2.1 rfl ?_
      obtain ⟨h2, ⟨x2, S2⟩, c2⟩ := nb_empty (d + 2) I1.st
      refine R_cv kC9 rfl rfl rfl rfl I1.st.2.2.2.1.2.2.2.1 (by omega) c2 ?_
      have I2 := I1.set x2 S2
      repeat (refine R_s kC9 rfl rfl ?_)
      refine R_get kC9 rfl I2.ob rfl ?_
      refine R_get kC9 rfl I2.st.2.1 rfl ?_
      refine R_cv kC9 rfl rfl rfl rfl I2.st.2.2.1.2 (by omega) (sp_FA_size (d + 1) I2.st.2.2.1) ?_
      exact R_ri kC9 rfl ⟨rfl, (x1.trans x2).mono (by omega) (by omega), I2⟩
    · rw [if_neg (by rw [he]; decide)]
      repeat (refine R_s kC9 rfl rfl ?_)
      exact R_ri kC9 rfl ⟨rfl, NQ.rfl' hI⟩
  · rw [if_neg (by rw [hd]; decide)]
    repeat (refine R_s kC9 rfl rfl ?_)
    exact R_ri kC9 rfl ⟨rfl, NQ.rfl' hI⟩
theorem trn_set {n : Nat} {Lm : Int32} (hL : Lin n Lm) {a b : Nat} (ha : a < 5) (hb : b < 5) (hab : a ≠ b) : trnL Lm a b = setL Lm a b (!lnB Lm a b) := b_ext (fun q hq => by
  unfold trnL setL
  rw [b_xor, b_or, one_bt (by omega) hq, one_bt (by omega) hq, maskOf_bt _ hq]
  by_cases e1 : q = 5 * a + b
  · subst e1
    rw [if_pos (Or.inl rfl), decide_eq_true rfl, hL.ln ha hb]
    simp
  · by_cases e2 : q = 5 * b + a
    · subst e2
      rw [if_pos (Or.inr rfl), decide_eq_true rfl, ← hL.2 a b ha hb, hL.ln ha hb]
      simp
    · rw [if_neg (by omega), decide_eq_false e1, decide_eq_false e2]
      simp)
theorem set_same {n : Nat} {Lm : Int32} (hL : Lin n Lm) {a b : Nat} (ha : a < 5) (hb : b < 5) : setL Lm a b (lnB Lm a b) = Lm := b_ext (fun q hq => by
  unfold setL
  rw [maskOf_bt _ hq]
  split
  · rename_i e
    rcases e with e | e
    · rw [e, hL.ln ha hb]
    · rw [e, ← hL.2 a b ha hb, hL.ln ha hb]
  · rfl)
theorem nb_line (d : Nat) (hI : NBI h U K im tx T) (hn : U.1 ≤ 5) (hL : Lin U.1 U.2.2.1) (v w is : Int32) : ∃ h', NQ h (specLine U v w is).2 K im tx T h' ∧ Cl (d + 2) 97 [.ref 3, .int v, .int w, .int is] h (some (.int (specLine U v w is).1)) h' := by
  have kC9 := co_NB_line
  refine Cl_eH kC9 rfl rfl ?_
  unfold specLine
  repeat (refine R_s kC9 rfl rfl ?_)
  refine R_get kC9 rfl (hI.ob) rfl ?_
  refine R_get kC9 rfl (hI.st.2.1) rfl ?_
  repeat (refine R_s kC9 rfl rfl ?_)
  refine R_cv kC9 rfl rfl rfl rfl hI.st.2.2.1.2 (by omega) (sp_FA_isPair d hI.st.2.2.1 hn v w) ?_
  refine ZB_ne kC9 rfl (fun hd => ?_) (fun hd => ?_)
  · rw [if_pos hd]
    unfold twoB at hd
    simp only [Bool.and_eq_true, Bool.not_eq_true', decide_eq_false_iff_not] at hd
    obtain ⟨a, a1, a2, rfl⟩ := ptB_of hd.1.1
    obtain ⟨b, b1, b2, rfl⟩ := ptB_of hd.1.2
    have hab : a ≠ b := fun e => hd.2 (by rw [e])
    rw [nI_clamp a2, nI_clamp b2]
    have body : (is = 0 ∨ is = nI 1) → R (d + 2) 97 16 [some (.ref 3), some (.int (nI a)), some (.int (nI b)), some (.int is), none] [] h (fun r2 h2 => r2 = some (.int (b2i (lnB U.2.2.1 a b))) ∧ NQ h (U.1, U.2.1, setL U.2.2.1 a b (decide (is = 1)), U.2.2.2) K im tx T h2) := by
      intro his
      have tail : R (d + 2) 97 27 [some (.ref 3), some (.int (nI a)), some (.int (nI b)), some (.int is), some (.int (b2i (lnB U.2.2.1 a b)))] [] h (fun r2 h2 => r2 = some (.int (b2i (lnB U.2.2.1 a b))) ∧ NQ h (U.1, U.2.1, setL U.2.2.1 a b (decide (is = 1)), U.2.2.2) K im tx T h2) := by
        have e1 : is = b2i (decide (is = 1)) := by
          rcases his with e | e
          · rw [e]; decide
          · rw [e]; decide
        repeat (refine R_s kC9 rfl rfl ?_)
        refine Rr_eq kC9 rfl (fun he => ?_) (fun he => ?_)
        · have e2 : decide (is = 1) = lnB U.2.2.1 a b := by
            rw [e1] at he
            cases h1 : lnB U.2.2.1 a b <;> cases h2 : decide (is = 1) <;> rw [h1, h2] at he <;> first | rfl | exact absurd he (by decide)
          rw [e2, set_same hL (by omega) (by omega)]
          repeat (refine R_s kC9 rfl rfl ?_)
          exact R_ri kC9 rfl ⟨rfl, NQ.rfl' hI⟩
        · have e2 : decide (is = 1) = !lnB U.2.2.1 a b := by
            cases h1 : lnB U.2.2.1 a b <;> cases h2 : decide (is = 1) <;> rw [h2] at e1 <;> rw [h1, e1] at he <;> first | rfl | exact absurd rfl he
          rw [e2, ← trn_set hL (by omega) (by omega) hab]
          repeat (refine R_s kC9 rfl rfl ?_)
          refine R_get kC9 rfl (hI.ob) rfl ?_
          refine R_get kC9 rfl (hI.st.2.1) rfl ?_
          repeat (refine R_s kC9 rfl rfl ?_)
          refine R_cv kC9 rfl rfl rfl rfl hI.st.2.2.1.2 (by omega) (sp_FA_turnLine (d + 1) hI.st.2.2.1 a b) ?_
          obtain ⟨S1, x1⟩ := hI.st.fam1 U.1 U.2.1 (trnL U.2.2.1 a b)
          repeat (refine R_s kC9 rfl rfl ?_)
          exact R_ri kC9 rfl ⟨rfl, x1.mono (by omega) (by omega), hI.set x1 S1⟩
      repeat (refine R_s kC9 rfl rfl ?_)
      refine R_get kC9 rfl (hI.ob) rfl ?_
      refine R_get kC9 rfl (hI.st.2.1) rfl ?_
      repeat (refine R_s kC9 rfl rfl ?_)
      refine R_cv kC9 rfl rfl rfl rfl hI.st.2.2.1.2 (by omega) (sp_FA_isLined (d + 1) hI.st.2.2.1 (a := a) (b := b) (by omega) (by omega)) ?_
      rw [hL.ln (by omega) (by omega)]
      refine ZB_eq kC9 rfl (fun he => ?_) (fun he => ?_)
      · rw [he] at tail ⊢
        iterate 2 (refine R_s kC9 rfl rfl ?_)
        exact tail
      · rw [he] at tail ⊢
        repeat (refine R_s kC9 rfl rfl ?_)
        refine R_g kC9 rfl ?_
        iterate 1 (refine R_s kC9 rfl rfl ?_)
        exact tail
    have i0 : is.toInt = 0 → is = 0 := fun z => Int32.toInt_inj.mp (by rw [z]; rfl)
    have i1 : is.toInt = 1 → is = nI 1 := fun z => Int32.toInt_inj.mp (by rw [z]; rfl)
    repeat (refine R_s kC9 rfl rfl ?_)
    refine Zr_eq kC9 rfl (fun he => ?_) (fun he => ?_)
    · rw [if_pos (by rw [he, tI_0]; omega)]
      exact body (Or.inl he)
    · repeat (refine R_s kC9 rfl rfl ?_)
      refine Rr_eq kC9 rfl (fun hf => ?_) (fun hf => ?_)
      · rw [if_pos (by rw [hf, tI_1]; omega)]
        exact body (Or.inr hf)
      · rw [if_neg (fun z => by
          have : is.toInt = 0 ∨ is.toInt = 1 := by omega
          rcases this with z | z
          · exact he (i0 z)
          · exact hf (i1 z))]
        repeat (refine R_s kC9 rfl rfl ?_)
        exact R_ri kC9 rfl ⟨rfl, NQ.rfl' hI⟩
  · rw [if_neg (by rw [hd]; decide)]
    repeat (refine R_s kC9 rfl rfl ?_)
    exact R_ri kC9 rfl ⟨rfl, NQ.rfl' hI⟩
end
