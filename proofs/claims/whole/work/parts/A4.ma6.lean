/-! MATHEMATICS, 6: all corners are joined -/
section
variable {n : Nat} {S : Int32}
/-- a point goes up by a flip -/
theorem bubble (hF : Fam n S) {c p t0 : Nat} (hc : c < (cornS n S).length) (hp : p < n) (o0 : Own n (· ∈ crL n S c) p t0) (hW : t0 ≠ 2 ^ n - 1) : ∃ j t u, j < n - 1 ∧ u < n ∧ u ≠ p ∧ Own n (· ∈ crL n S c) u t ∧ sbs t0 t ∧ t0 ≠ t ∧ (∀ v, Pl n (· ∈ crL n S c) v → v.testBit p = true → v = t0 ∨ sbs t v) ∧ Own n (· ∈ crL n S (nrN n S c j)) p t ∧ ∀ r tr, r < n → r ≠ p → r ≠ u → Own n (· ∈ crL n S c) r tr → Own n (· ∈ crL n S (nrN n S c j)) r tr := by
  have hC := crL_C hF hc
  have hd := hC.1.nodup
  have hn2 := hF.1
  have hlen := hC.2.2
  have ht0 : t0 ∈ crL n S c := by
    rcases o0.1 with q | q
    · exact q
    · exact absurd q hW
  obtain ⟨j, hj, ej⟩ := List.mem_iff_getElem.mp ht0
  have hjn : j < n - 1 := by omega
  have egd : (crL n S c).getD j 0 = t0 := by rw [List.getD_eq_getElem?_getD, List.getElem?_eq_getElem hj, ej]; rfl
  obtain ⟨o, X, o1, o2, o3, o4, o5, o6⟩ := flip_num hF hc hjn
  have eo : nrN n S c j = o := by unfold nrN; rw [o3]; rfl
  rw [egd] at o5
  have hO := crL_C hF o1
  have ne : ∀ t, t ∈ (crL n S c).erase t0 ↔ t ∈ crL n S c ∧ t ≠ t0 := fun t => by rw [hd.mem_erase_iff]; exact and_comm
  have hN : Nst n S (· ∈ (crL n S c).erase t0) := hC.2.1.mono (fun t ht => ((ne t).mp ht).1)
  have hdN : ((crL n S c).erase t0).Nodup := hd.erase t0
  have hlN : ((crL n S c).erase t0).length + 2 = n := by rw [List.length_erase_of_mem ht0]; omega
  have upc : ∀ {v}, Pl n (· ∈ (crL n S c).erase t0) v → Pl n (· ∈ crL n S c) v := fun h => by
    rcases h with q | q
    · exact Or.inl ((ne _).mp q).1
    · exact Or.inr q
  have upo : ∀ {v}, Pl n (· ∈ (crL n S c).erase t0) v → Pl n (· ∈ crL n S o) v := fun h => by
    rcases h with q | q
    · exact Or.inl ((o5 _).mpr (Or.inr ((ne _).mp q)))
    · exact Or.inr q
  have dnc : ∀ {v}, Pl n (· ∈ crL n S c) v → v ≠ t0 → Pl n (· ∈ (crL n S c).erase t0) v := fun h hne => by
    rcases h with q | q
    · exact Or.inl ((ne _).mpr ⟨q, hne⟩)
    · exact Or.inr q
  have dno : ∀ {v}, Pl n (· ∈ crL n S o) v → v ≠ X → Pl n (· ∈ (crL n S c).erase t0) v := fun h hne => by
    rcases h with q | q
    · rcases (o5 _).mp q with z | z
      · exact absurd z hne
      · exact Or.inl ((ne _).mpr z)
    · exact Or.inr q
  have t0N : ¬ Pl n (· ∈ (crL n S c).erase t0) t0 := fun h => by
    rcases h with q | q
    · exact ((ne _).mp q).2 rfl
    · exact hW q
  -- the parent
  obtain ⟨t, ot⟩ := Own.ex hF hN hp
  obtain ⟨u, hu, ou⟩ := own_pt hF hC.2.1 (upc ot.1)
  have t0t : t0 ≠ t := fun e => t0N (e ▸ ot.1)
  have hup : u ≠ p := fun e => t0t (by rw [e] at ou; exact o0.uniq ou)
  have ouN : Own n (· ∈ (crL n S c).erase t0) u t := ⟨ot.1, ou.2.1, fun v hv hvu => ou.2.2 v (upc hv) hvu⟩
  obtain ⟨Xp, hXp⟩ := grt_ex hF hp (Ne.symm hup) ot.2.1
  obtain ⟨Xu, hXu⟩ := grt_ex hF hu hup ouN.2.1
  have XN : X ∉ (crL n S c).erase t0 := fun q => o4 ((ne _).mp q).1
  have t0N2 : t0 ∉ (crL n S c).erase t0 := fun q => ((ne _).mp q).2 rfl
  have hcX : Nst n S (· ∈ X :: (crL n S c).erase t0) := hO.2.1.congr (fun v => by rw [o5 v, List.mem_cons, ne v])
  have hc0 : Nst n S (· ∈ t0 :: (crL n S c).erase t0) := hC.2.1.congr (fun v => by
    rw [List.mem_cons, ne v]
    constructor
    · intro q
      by_cases e : v = t0
      · exact Or.inl e
      · exact Or.inr ⟨q, e⟩
    · rintro (q | q)
      · rw [q]; exact ht0
      · exact q.1)
  have X0 : X ≠ t0 := fun e => o4 (e ▸ ht0)
  have e0 : t0 = Xp := by
    rcases compl hF hN hc0 (List.nodup_cons.mpr ⟨t0N2, hdN⟩) hlN hp hu (Ne.symm hup) ot ouN hXp hXu with q | q
    · exact q
    · exact absurd (q ▸ o0.2.1) hXu.2.2.2.1
  have eX : X = Xu := by
    rcases compl hF hN hcX (List.nodup_cons.mpr ⟨XN, hdN⟩) hlN hp hu (Ne.symm hup) ot ouN hXp hXu with q | q
    · exact absurd (q.trans e0.symm) X0
    · exact q
  subst eX
  have oX : Own n (· ∈ crL n S o) u X := ⟨Or.inl ((o5 X).mpr (Or.inl rfl)), hXu.2.1, fun v hv hvu => by
    by_cases e : v = X
    · rw [e]; exact sbs.refl _
    · exact hXu.2.2.1.trans (ouN.2.2 v (dno hv e) hvu)⟩
  refine ⟨j, t, u, hjn, hu, hup, ou, ?_, t0t, fun v hv hvp => ?_, ?_, fun r tr hr hrp hru or_ => ?_⟩
  · rw [e0]; exact hXp.2.2.1
  · by_cases e : v = t0
    · exact Or.inl e
    · exact Or.inr (ot.2.2 v (dnc hv e) hvp)
  · rw [eo]
    refine ⟨upo ot.1, ot.2.1, fun v hv hvp => ?_⟩
    by_cases e : v = X
    · rw [e] at hvp; exact absurd hvp hXu.2.2.2.1
    · exact ot.2.2 v (dno hv e) hvp
  · rw [eo]
    have htr : tr ≠ t0 := fun e => hrp (own_inj hF hC.2.1 hd (by omega) hr hp (e ▸ or_) o0)
    refine ⟨upo (dnc or_.1 htr), or_.2.1, fun v hv hvr => ?_⟩
    by_cases e : v = X
    · obtain ⟨w, ow⟩ := Own.ex hF hO.2.1 hr
      have hwX : w ≠ X := fun q => hru (own_inj hF hO.2.1 hO.1.nodup (by rw [hO.2.2]; omega) hr hu (q ▸ ow) oX)
      have h1 := or_.2.2 w (upc (dno ow.1 hwX)) ow.2.1
      exact h1.trans (ow.2.2 v hv hvr)
    · exact or_.2.2 v (upc (dno hv e)) hvr
/-- the greatest set with i without what is less -/
def GrI (S : Int32) (i t : Nat) : Prop := bt S t = true ∧ t.testBit i = true ∧ (∀ j, j < i → ¬ t.testBit j = true) ∧ ∀ s, bt S s = true → s.testBit i = true → (∀ j, j < i → ¬ s.testBit j = true) → sbs s t
theorem GrI.uniq {i t u : Nat} (h1 : GrI S i t) (h2 : GrI S i u) : t = u := (h2.2.2.2 t h1.1 h1.2.1 h1.2.2.1).antisymm (h1.2.2.2 u h2.1 h2.2.1 h2.2.2.1)
def plcd (n : Nat) (S : Int32) (k c : Nat) : Prop := ∀ i, i < k → ∃ t, Own n (· ∈ crL n S c) i t ∧ GrI S i t
theorem place1 (hF : Fam n S) {k : Nat} (hk : k < n) : ∀ (m c t0 : Nat), c < (cornS n S).length → plcd n S k c → Own n (· ∈ crL n S c) k t0 → 32 - t0 ≤ m → ∃ e r, e < (cornS n S).length ∧ knB (nrN n S) (n - 1) r c e = true ∧ plcd n S (k + 1) e
  | m, c, t0, hc, hP, o0, hm => by
    have hC := crL_C hF hc
    have hn2 := hF.1
    have hlen := hC.2.2
    have inj := fun {p q v : Nat} (hp : p < n) (hq : q < n) (h1 : Own n (· ∈ crL n S c) p v) (h2 : Own n (· ∈ crL n S c) q v) => own_inj hF hC.2.1 hC.1.nodup (by omega) hp hq h1 h2
    by_cases g : GrI S k t0
    · exact ⟨c, 0, hc, kn_0.mpr rfl, fun i hi => by
        by_cases e : i = k
        · subst e; exact ⟨t0, o0, g⟩
        · exact hP i (by omega)⟩
    · -- the least point of a set that is in the nest has it for its own, where it is less than k
      have least : ∀ v, Pl n (· ∈ crL n S c) v → ∀ j, j < k → v.testBit j = true → ∃ i, i < k ∧ Own n (· ∈ crL n S c) i v := by
        intro v hv j hj hvj
        obtain ⟨i, i1, i2⟩ := pk_least (fun i => v.testBit i = true) ⟨j, hvj⟩
        have hik : i < k := by
          rcases Nat.lt_or_ge i k with q | q
          · exact q
          · exact absurd hvj (i2 j (by omega))
        obtain ⟨t, t1, t2⟩ := hP i hik
        have h1 := t2.2.2.2 v (hC.2.1.pl hF hv).1 i1 (fun a ha => i2 a ha)
        have h2 := t1.2.2 v hv i1
        have e : t = v := h2.antisymm h1
        exact ⟨i, hik, e ▸ t1⟩
      have t0S := (hC.2.1.pl hF o0.1)
      have av : ∀ j, j < k → ¬ t0.testBit j = true := by
        intro j hj hb
        obtain ⟨i, i1, i2⟩ := least t0 o0.1 j hj hb
        have := inj (by omega) hk i2 o0
        omega
      have hW : t0 ≠ 2 ^ n - 1 := by
        intro e
        apply g
        refine ⟨t0S.1, o0.2.1, av, fun s hs _ _ => ?_⟩
        rw [e]; exact sub_W (hF.rg hs).2
      obtain ⟨j, t, u, hj, hu, hup, ou, h1, h2, h3, h4, h5⟩ := bubble hF hc hk o0 hW
      by_cases huk : u < k
      · exfalso
        apply g
        refine ⟨t0S.1, o0.2.1, av, fun s hs hsk hsa => ?_⟩
        obtain ⟨T, q, T1, T2, q1, q2, oq, Tm⟩ := own_in hF hC.2.1 hs
        rcases h3 T T1 (T2 k hsk) with e | e
        · rw [e] at T2; exact T2
        · exfalso
          obtain ⟨i, i1, i2⟩ := least T T1 u huk (e u ou.2.1)
          have := inj q1 (by omega) oq i2
          subst this
          exact hsa q i1 q2
      · have hlt : t0 < t := by
          have := h1.le
          omega
        have t32 : t < 32 := bt_lt (hC.2.1.pl hF ou.1).1
        have hNb := ((flU_of hF).1.at hc hj).1
        match m, hm with
        | 0, hm => omega
        | m + 1, hm =>
          obtain ⟨e, r, e1, e2, e3⟩ := place1 hF hk m (nrN n S c j) t hNb (fun i hi => by
            obtain ⟨ti, a1, a2⟩ := hP i hi
            exact ⟨ti, h5 i ti (by omega) (by omega) (by omega) a1, a2⟩) h4 (by omega)
          exact ⟨e, r + 1, e1, kn_s.mpr (Or.inr ⟨j, hj, e2⟩), e3⟩
theorem place_all (hF : Fam n S) {c : Nat} (hc : c < (cornS n S).length) : ∀ k, k ≤ n → ∃ e r, e < (cornS n S).length ∧ knB (nrN n S) (n - 1) r c e = true ∧ plcd n S k e
  | 0, _ => ⟨c, 0, hc, kn_0.mpr rfl, fun i hi => by omega⟩
  | k + 1, hk => by
    obtain ⟨e, r, e1, e2, e3⟩ := place_all hF hc k (by omega)
    obtain ⟨t0, ot⟩ := Own.ex hF (crL_C hF e1).2.1 (show k < n by omega)
    obtain ⟨e', r', a1, a2, a3⟩ := place1 hF (by omega) (32 - t0) e t0 e1 e3 ot (Nat.le_refl _)
    exact ⟨e', r + r', a1, kn_trans e2 a2, a3⟩
theorem plcd_uniq (hF : Fam n S) {c e : Nat} (hc : c < (cornS n S).length) (he : e < (cornS n S).length) (h1 : plcd n S n c) (h2 : plcd n S n e) : c = e := by
  refine crL_sub hF hc he (fun t ht => ?_)
  have hC := crL_C hF hc
  obtain ⟨p, hp, op⟩ := own_pt hF hC.2.1 (Or.inl ht)
  obtain ⟨t1, a1, a2⟩ := h1 p hp
  obtain ⟨t2, b1, b2⟩ := h2 p hp
  have e1 : t = t1 := op.uniq a1
  have e2 : t1 = t2 := a2.uniq b2
  rw [← e2, ← e1] at b1
  rcases b1.1 with q | q
  · exact q
  · have := (hC.2.1.1 t ht).1
    omega
theorem flip_back (hF : Fam n S) {c j : Nat} (hc : c < (cornS n S).length) (hj : j < n - 1) : ∃ j', j' < n - 1 ∧ nrN n S (nrN n S c j) j' = c := by
  obtain ⟨o, X, o1, o2, o3, o4, o5, o6⟩ := flip_num hF hc hj
  have eo : nrN n S c j = o := by unfold nrN; rw [o3]; rfl
  rw [eo]
  have hXo : X ∈ crL n S o := (o5 X).mpr (Or.inl rfl)
  obtain ⟨j', hj', ej⟩ := List.mem_iff_getElem.mp hXo
  have hlen := (crL_C hF o1).2.2
  refine ⟨j', by omega, ?_⟩
  refine ((flU_of hF).2.2.2.1 o j' c o1 (by omega) hc (Ne.symm o2) (fun t ht hne => ?_)).symm
  rw [List.getD_eq_getElem?_getD, List.getElem?_eq_getElem hj', ej] at hne
  rcases (o5 t).mp ht with q | q
  · exact absurd q hne
  · exact q.1
theorem kn_symm (hF : Fam n S) : ∀ (r c e : Nat), c < (cornS n S).length → knB (nrN n S) (n - 1) r c e = true → ∃ r', knB (nrN n S) (n - 1) r' e c = true
  | 0, c, e, hc, h => by
    rw [kn_0] at h
    exact ⟨0, kn_0.mpr h.symm⟩
  | r + 1, c, e, hc, h => by
    rcases kn_s.mp h with q | ⟨k, hk, q⟩
    · exact kn_symm hF r c e hc q
    · obtain ⟨r', h1⟩ := kn_symm hF r (nrN n S c k) e ((flU_of hF).1.at hc hk).1 q
      obtain ⟨j', j1, j2⟩ := flip_back hF hc hk
      refine ⟨r' + 1, ?_⟩
      have := kn_snoc h1 j1
      rw [j2] at this
      exact this
theorem joined (hF : Fam n S) (c e : Nat) (hc : c < (cornS n S).length) (he : e < (cornS n S).length) : ∃ r, knB (nrN n S) (n - 1) r c e = true := by
  obtain ⟨a, r1, a1, a2, a3⟩ := place_all hF hc n (Nat.le_refl _)
  obtain ⟨b, r2, b1, b2, b3⟩ := place_all hF he n (Nat.le_refl _)
  have := plcd_uniq hF a1 b1 a3 b3
  subst this
  obtain ⟨r3, h3⟩ := kn_symm hF r2 e a he b2
  exact ⟨r1 + r3, kn_trans a2 h3⟩
end
