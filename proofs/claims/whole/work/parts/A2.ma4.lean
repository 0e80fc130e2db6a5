/-! MATHEMATICS, 4: nests lie in corners; flips -/
section
variable {n : Nat} {S : Int32}
theorem Nst.congr {N M : Nat → Prop} (h : Nst n S N) (e : ∀ t, N t ↔ M t) : Nst n S M := h.mono (fun t ht => (e t).mpr ht)
theorem els_of {y : List Nat} (h32 : ∀ t ∈ y, t < 32) (t : Nat) : t ∈ els (chM y) ↔ t ∈ y := by
  rw [els_mem]
  constructor
  · rintro ⟨a, b⟩; rw [chM_bt a] at b; exact of_decide_eq_true b
  · intro ht; exact ⟨h32 t ht, by rw [chM_bt (h32 t ht)]; exact decide_eq_true ht⟩
theorem els_of_len {y : List Nat} (h32 : ∀ t ∈ y, t < 32) (hd : y.Nodup) : (els (chM y)).length = y.length := by
  have h1 := nodup_sub _ y (els_nodup (chM y)) (fun x hx => (els_of h32 x).mp hx)
  have h2 := nodup_sub y _ hd (fun x hx => (els_of h32 x).mpr hx)
  omega
theorem Nst.l32 {y : List Nat} (h : Nst n S (· ∈ y)) : ∀ t ∈ y, t < 32 := fun t ht => bt_lt (h.1 t ht).2
/-- a nest of n - 1 sets, put in order, is a corner -/
theorem mk_corner (hF : Fam n S) {y : List Nat} (h : Nst n S (· ∈ y)) (hd : y.Nodup) (hl : y.length = n - 1) : els (chM y) ∈ cornS n S ∧ ∀ t, t ∈ els (chM y) ↔ t ∈ y := by
  have h32 := h.l32
  refine ⟨(corn_iff hF).mpr ⟨els_sorted _, h.congr (fun t => (els_of h32 t).symm), by rw [els_of_len h32 hd, hl]⟩, els_of h32⟩
theorem in_corner (hF : Fam n S) : ∀ (m : Nat) (y : List Nat), y.length + m = n - 1 → Nst n S (· ∈ y) → y.Nodup → ∃ c ∈ cornS n S, ∀ t ∈ y, t ∈ c
  | 0, y, hl, h, hd => by
    obtain ⟨a, b⟩ := mk_corner hF h hd (by omega)
    exact ⟨_, a, fun t ht => (b t).mpr ht⟩
  | m + 1, y, hl, h, hd => by
    obtain ⟨a, b, t, ha, hb, hab, oa, ob⟩ := two_own hF h (by omega)
    obtain ⟨X, hX⟩ := grt_ex hF ha hab oa.2.1
    obtain ⟨x1, x2⟩ := ext_nst hF h hb oa ob hX
    obtain ⟨c, c1, c2⟩ := in_corner hF m (X :: y) (by rw [List.length_cons]; omega) (x2.congr (fun u => by simp [or_comm])) (List.nodup_cons.mpr ⟨x1, hd⟩)
    exact ⟨c, c1, fun t ht => c2 t (List.mem_cons_of_mem _ ht)⟩
theorem corner_of (hF : Fam n S) {y : List Nat} (h : Nst n S (· ∈ y)) (hd : y.Nodup) : ∃ c ∈ cornS n S, ∀ t ∈ y, t ∈ c := by
  have := nst_len hF h hd
  exact in_corner hF (n - 1 - y.length) y (by omega) h hd
theorem corners_1 (hF : Fam n S) : 1 ≤ (cornS n S).length := by
  obtain ⟨c, c1, _⟩ := corner_of hF Nst.nil List.nodup_nil
  exact List.length_pos_of_mem c1
/-- what completes a nest that lacks one set -/
theorem compl1 (hF : Fam n S) {y : List Nat} {Z a b t X : Nat} (hN : Nst n S (· ∈ y)) (hZ : Nst n S (· ∈ Z :: y)) (hd : (Z :: y).Nodup) (hl : y.length + 2 = n) (ha : a < n) (hb : b < n) (hab : a ≠ b) (oa : Own n (· ∈ y) a t) (ob : Own n (· ∈ y) b t) (hX : Grt S t a b X) {ta : Nat} (oa' : Own n (· ∈ Z :: y) a ta) (hta : ta ≠ t) : Z = X := by
  have up : ∀ u, Pl n (· ∈ y) u → Pl n (· ∈ Z :: y) u := fun u hu => by
    rcases hu with q | q
    · exact Or.inl (List.mem_cons_of_mem _ q)
    · exact Or.inr q
  have dn : ∀ u, Pl n (· ∈ Z :: y) u → u ≠ Z → Pl n (· ∈ y) u := fun u hu hne => by
    rcases hu with q | q
    · rcases List.mem_cons.mp q with z | z
      · exact absurd z hne
      · exact Or.inl z
    · exact Or.inr q
  have hl2 : (Z :: y).length + 1 = n := by rw [List.length_cons]; omega
  have inj := fun {p q u : Nat} (hp : p < n) (hq : q < n) (h1 : Own n (· ∈ Z :: y) p u) (h2 : Own n (· ∈ Z :: y) q u) => own_inj hF hZ hd hl2 hp hq h1 h2
  have tat := oa'.2.2 t (up t oa.1) oa.2.1
  have taZ : ta = Z := by
    apply Classical.byContradiction
    intro hne
    exact hta (tat.antisymm (oa.2.2 ta (dn ta oa'.1 hne) oa'.2.1))
  subst taZ
  obtain ⟨tb, ob'⟩ := Own.ex hF hZ hb
  have bZ : ¬ ta.testBit b = true := by
    intro hbz
    have h1 := ob'.2.2 ta oa'.1 hbz
    have hne : tb ≠ ta := fun e => hab (inj ha hb oa' (e ▸ ob'))
    have h2 := ob.2.2 tb (dn tb ob'.1 hne) ob'.2.1
    exact hta (tat.antisymm (h2.trans h1))
  have ZS : bt S ta = true := (hZ.1 ta List.mem_cons_self).2
  have hsub : sbs ta X := hX.2.2.2.2 ta ZS oa'.2.1 tat bZ
  obtain ⟨T, q, T1, T2, q1, q2, oq, Tm⟩ := own_in hF hZ hX.1
  by_cases e : T = ta
  · exact hsub.antisymm (e ▸ T2)
  · exfalso
    have h1 := oa.2.2 T (dn T T1 e) (T2 a hX.2.1)
    have h2 := Tm t (up t oa.1) hX.2.2.1
    have eT : T = t := h2.antisymm h1
    have hne : tb ≠ ta := fun e2 => bZ (e2 ▸ ob'.2.1)
    have h3 := ob.2.2 tb (dn tb ob'.1 hne) ob'.2.1
    have h4 := ob'.2.2 t (up t oa.1) ob.2.1
    have etb : tb = t := h4.antisymm h3
    rw [etb] at ob'
    rw [eT] at oq
    have := inj q1 hb oq ob'
    rw [this] at q2
    exact hX.2.2.2.1 q2
theorem compl (hF : Fam n S) {y : List Nat} {Z a b t Xa Xb : Nat} (hN : Nst n S (· ∈ y)) (hZ : Nst n S (· ∈ Z :: y)) (hd : (Z :: y).Nodup) (hl : y.length + 2 = n) (ha : a < n) (hb : b < n) (hab : a ≠ b) (oa : Own n (· ∈ y) a t) (ob : Own n (· ∈ y) b t) (hA : Grt S t a b Xa) (hB : Grt S t b a Xb) : Z = Xa ∨ Z = Xb := by
  obtain ⟨ta, oa'⟩ := Own.ex hF hZ ha
  obtain ⟨tb, ob'⟩ := Own.ex hF hZ hb
  by_cases e : ta = t
  · right
    refine compl1 hF hN hZ hd hl hb ha (Ne.symm hab) ob oa hB ob' (fun e2 => hab ?_)
    rw [e] at oa'
    rw [e2] at ob'
    exact own_inj hF hZ hd (by rw [List.length_cons]; omega) ha hb oa' ob'
  · exact Or.inl (compl1 hF hN hZ hd hl ha hb hab oa ob hA oa' e)
/-- a corner's flip -/
theorem flip_ex (hF : Fam n S) {y : List Nat} (hC : isC n S y) {t0 : Nat} (ht0 : t0 ∈ y) : ∃ X, X ≠ t0 ∧ X ∉ y ∧ Nst n S (· ∈ X :: y.erase t0) ∧ ∀ Z, Z ∉ y.erase t0 → Nst n S (· ∈ Z :: y.erase t0) → Z = t0 ∨ Z = X := by
  have hd := hC.1.nodup
  have hlen := hC.2.2
  have hn2 := hF.1
  have ne : ∀ t, t ∈ y.erase t0 ↔ t ∈ y ∧ t ≠ t0 := fun t => by rw [hd.mem_erase_iff]; exact and_comm
  have hN : Nst n S (· ∈ y.erase t0) := hC.2.1.mono (fun t ht => ((ne t).mp ht).1)
  have hdN : (y.erase t0).Nodup := hd.erase t0
  have hl : (y.erase t0).length + 2 = n := by rw [List.length_erase_of_mem ht0]; have := List.length_pos_of_mem ht0; omega
  have t0N : t0 ∉ y.erase t0 := fun q => ((ne t0).mp q).2 rfl
  have hy0 : Nst n S (· ∈ t0 :: y.erase t0) := hC.2.1.congr (fun t => by
    rw [List.mem_cons, ne t]
    constructor
    · intro q
      by_cases e : t = t0
      · exact Or.inl e
      · exact Or.inr ⟨q, e⟩
    · rintro (q | q)
      · rw [q]; exact ht0
      · exact q.1)
  obtain ⟨a, b, t, ha, hb, hab, oa, ob⟩ := two_own hF hN (by omega)
  obtain ⟨Xa, hA⟩ := grt_ex hF ha hab oa.2.1
  obtain ⟨Xb, hB⟩ := grt_ex hF hb (Ne.symm hab) ob.2.1
  obtain ⟨na, ea⟩ := ext_nst hF hN hb oa ob hA
  obtain ⟨nb, eb⟩ := ext_nst hF hN ha ob oa hB
  have eA : Nst n S (· ∈ Xa :: y.erase t0) := ea.congr (fun u => by simp [or_comm])
  have eB : Nst n S (· ∈ Xb :: y.erase t0) := eb.congr (fun u => by simp [or_comm])
  have hXab : Xa ≠ Xb := fun e => hB.2.2.2.1 (e ▸ hA.2.1)
  have all : ∀ Z, Z ∉ y.erase t0 → Nst n S (· ∈ Z :: y.erase t0) → Z = Xa ∨ Z = Xb := fun Z z1 z2 => compl hF hN z2 (List.nodup_cons.mpr ⟨z1, hdN⟩) hl ha hb hab oa ob hA hB
  rcases all t0 t0N hy0 with e | e
  · refine ⟨Xb, fun q => hXab (e ▸ q.symm), fun q => nb ((ne Xb).mpr ⟨q, fun z => hXab (e ▸ z.symm)⟩), eB, fun Z z1 z2 => ?_⟩
    rw [e]; exact all Z z1 z2
  · refine ⟨Xa, fun q => hXab (q.trans e), fun q => na ((ne Xa).mpr ⟨q, fun z => hXab (z.trans e)⟩), eA, fun Z z1 z2 => ?_⟩
    rw [e]
    exact (all Z z1 z2).symm
theorem gnL_pre : ∀ (m s : Nat) (ns y : List Nat), y ∈ gnL n S m s ns → ∃ z, z ≠ [] ∧ y = ns ++ z ∧ ∀ t ∈ z, s ≤ t
  | 0, s, ns, y, h => by simp [gnL] at h
  | m + 1, s, ns, y, h => by
    rw [gnL_nd, List.mem_append] at h
    rcases h with h | h
    · split at h
      · unfold ndL at h
        rcases List.mem_cons.mp h with e | e
        · refine ⟨[s], by simp, e, fun t ht => ?_⟩
          have : t = s := by simpa using ht
          omega
        · split at e
          · cases e
          · obtain ⟨z, z0, z1, z2⟩ := gnL_pre m (s + 1) _ y e
            refine ⟨s :: z, by simp, by rw [z1, List.append_assoc]; rfl, fun t ht => ?_⟩
            rcases List.mem_cons.mp ht with q | q
            · omega
            · have := z2 t q; omega
      · cases h
    · obtain ⟨z, z0, z1, z2⟩ := gnL_pre m (s + 1) ns y h
      exact ⟨z, z0, z1, fun t ht => by have := z2 t ht; omega⟩
theorem gnL_nodup : ∀ (m s : Nat) (ns : List Nat), (∀ t ∈ ns, t < s) → (gnL n S m s ns).Nodup
  | 0, s, ns, _ => List.nodup_nil
  | m + 1, s, ns, hlt => by
    have hlt1 : ∀ t ∈ ns, t < s + 1 := fun t ht => by have := hlt t ht; omega
    have hlt2 : ∀ t ∈ ns ++ [s], t < s + 1 := fun t ht => by
      rcases List.mem_append.mp ht with q | q
      · exact hlt1 t q
      · have : t = s := by simpa using q
        omega
    rw [gnL_nd]
    refine List.nodup_append.mpr ⟨?_, gnL_nodup m (s + 1) ns hlt1, fun y hy w hw e => ?_⟩
    · split
      · unfold ndL
        refine List.nodup_cons.mpr ⟨fun q => ?_, ?_⟩
        · split at q
          · cases q
          · obtain ⟨z, z0, z1, _⟩ := gnL_pre m (s + 1) _ _ q
            have h9 : z.length = 0 := by
              have := congrArg List.length z1
              simp only [List.length_append] at this
              omega
            exact z0 (List.length_eq_zero_iff.mp h9)
        · split
          · exact List.nodup_nil
          · exact gnL_nodup m (s + 1) _ hlt2
      · exact List.nodup_nil
    · subst e
      have h1 : s ∈ y := by
        split at hy
        · unfold ndL at hy
          rcases List.mem_cons.mp hy with q | q
          · rw [q]; simp
          · split at q
            · cases q
            · obtain ⟨z, z0, z1, _⟩ := gnL_pre m (s + 1) _ _ q
              rw [z1]; simp
        · cases hy
      obtain ⟨z, z0, z1, z2⟩ := gnL_pre m (s + 1) ns y hw
      rw [z1] at h1
      rcases List.mem_append.mp h1 with q | q
      · have := hlt s q; omega
      · have := z2 s q; omega
theorem allN_nodup (hn2 : 2 ≤ n) : (allN n S).Nodup := by
  unfold allN ndL
  rw [if_neg (by simp; omega)]
  refine List.nodup_cons.mpr ⟨fun q => ?_, gnL_nodup _ _ _ (fun t ht => by cases ht)⟩
  obtain ⟨z, z0, z1, _⟩ := gnL_pre _ _ _ _ q
  exact z0 (by simpa using z1.symm)
theorem insR_nodup {x : List Nat} : ∀ (t : List (List Nat)), t.Nodup → x ∉ t → (insR n S x t).Nodup
  | [], _, _ => by show [x].Nodup; simp
  | z :: t, hd, hx => by
    rw [insR_cons]
    obtain ⟨d1, d2⟩ := List.nodup_cons.mp hd
    split
    · refine List.nodup_cons.mpr ⟨fun q => ?_, insR_nodup t d2 (fun q => hx (List.mem_cons_of_mem _ q))⟩
      rcases (insR_mem n S x t z).mp q with e | e
      · exact hx (e ▸ List.mem_cons_self)
      · exact d1 e
    · exact List.nodup_cons.mpr ⟨hx, hd⟩
theorem srtR_nodup : ∀ (l acc : List (List Nat)), (l ++ acc).Nodup → (srtR n S l acc).Nodup
  | [], acc, h => h
  | x :: l, acc, h => by
    rw [srtR_cons]
    rw [List.cons_append, List.nodup_cons, List.nodup_append] at h
    obtain ⟨h1, h2, h3, h4⟩ := h
    refine srtR_nodup l _ (List.nodup_append.mpr ⟨h2, insR_nodup acc h3 (fun q => h1 (List.mem_append_right _ q)), fun a ha b hb e => ?_⟩)
    subst e
    rcases (insR_mem n S x acc a).mp hb with e | e
    · exact h1 (List.mem_append_left _ (e ▸ ha))
    · exact h4 a ha a e rfl
theorem cornS_nodup (hn2 : 2 ≤ n) : (cornS n S).Nodup := by
  unfold cornS
  have h1 : (srtR n S (corL n (allN n S)) []).Nodup := srtR_nodup _ _ (by rw [List.append_nil]; exact (allN_nodup hn2).filter _)
  exact List.pairwise_reverse.mpr (h1.imp (fun h => Ne.symm h))
theorem crL_inj (hn2 : 2 ≤ n) {a c : Nat} (ha : a < (cornS n S).length) (hc : c < (cornS n S).length) (h : crL n S a = crL n S c) : a = c := by
  have h1 := crL_get ha
  have h2 := crL_get hc
  rw [h] at h1
  obtain ⟨i1, i2⟩ := List.getElem?_eq_some_iff.mp h1
  obtain ⟨j1, j2⟩ := List.getElem?_eq_some_iff.mp h2
  rcases Nat.lt_trichotomy a c with q | q | q
  · exact absurd (i2.trans j2.symm) (List.pairwise_iff_getElem.mp (cornS_nodup hn2) a c i1 j1 q)
  · exact q
  · exact absurd (j2.trans i2.symm) (List.pairwise_iff_getElem.mp (cornS_nodup hn2) c a j1 i1 q)
theorem crL_C (hF : Fam n S) {c : Nat} (hc : c < (cornS n S).length) : isC n S (crL n S c) := (corn_iff hF).mp (List.mem_of_getElem? (crL_get hc))
theorem crL_ix {y : List Nat} (hy : y ∈ cornS n S) : ∃ c, c < (cornS n S).length ∧ crL n S c = y := by
  obtain ⟨c, hc, e⟩ := List.mem_iff_getElem.mp hy
  refine ⟨c, hc, ?_⟩
  unfold crL
  rw [List.getD_eq_getElem?_getD, List.getElem?_eq_getElem hc, e]
  rfl
/-- corners with the same sets are one -/
theorem crL_ext (hF : Fam n S) {a c : Nat} (ha : a < (cornS n S).length) (hc : c < (cornS n S).length) (h : ∀ t, t ∈ crL n S a ↔ t ∈ crL n S c) : a = c := crL_inj hF.1 ha hc (srt_eq _ _ (crL_C hF ha).1 (crL_C hF hc).1 h)
theorem crL_sub (hF : Fam n S) {a c : Nat} (ha : a < (cornS n S).length) (hc : c < (cornS n S).length) (h : ∀ t ∈ crL n S a, t ∈ crL n S c) : a = c := by
  refine crL_ext hF ha hc (fun t => ⟨h t, fun ht => ?_⟩)
  have hA := crL_C hF ha
  have hC := crL_C hF hc
  apply Classical.byContradiction
  intro hno
  have := nodup_sub (t :: crL n S a) (crL n S c) (List.nodup_cons.mpr ⟨hno, hA.1.nodup⟩) (fun x hx => by
    rcases List.mem_cons.mp hx with q | q
    · rw [q]; exact ht
    · exact h x q)
  rw [List.length_cons, hA.2.2, hC.2.2] at this
  omega
theorem flF_some {rest : Int32} {c : Nat} : ∀ (l : List Int32) (i o : Nat), flF rest c l i = some o → i ≤ o ∧ o ≠ c ∧ ∃ x, l[o - i]? = some x ∧ x &&& rest = rest
  | [], i, o, h => by cases h
  | x :: l, i, o, h => by
    rw [flF_cons] at h
    split at h
    · rename_i hq
      cases h
      exact ⟨Nat.le_refl _, hq.1, x, by rw [Nat.sub_self]; rfl, hq.2⟩
    · obtain ⟨a, b, z, z1, z2⟩ := flF_some l (i + 1) o h
      refine ⟨by omega, b, z, ?_, z2⟩
      rw [show o - i = (o - (i + 1)) + 1 by omega, List.getElem?_cons_succ]
      exact z1
theorem flF_none {rest : Int32} {c : Nat} : ∀ (l : List Int32) (i : Nat), flF rest c l i = none → ∀ k x, l[k]? = some x → i + k ≠ c → ¬ x &&& rest = rest
  | [], i, _, k, x, hk => by simp at hk
  | z :: l, i, h, k, x, hk => by
    rw [flF_cons] at h
    split at h
    · cases h
    · rename_i hq
      intro hne
      cases k with
      | zero =>
        have : z = x := by simpa using hk
        subst this
        exact fun e => hq ⟨by omega, e⟩
      | succ k =>
        rw [List.getElem?_cons_succ] at hk
        exact flF_none l (i + 1) h k x hk (by omega)
theorem cornM_get {o : Nat} (ho : o < (cornS n S).length) : (cornM n S)[o]? = some (chM (crL n S o)) := by
  unfold cornM
  rw [List.getElem?_map, crL_get ho]
  rfl
theorem near_iff {y z : List Nat} (hy : ∀ t ∈ y, t < 32) {t0 : Nat} (ht0 : t0 < 32) : chM z &&& restM (chM y) t0 = restM (chM y) t0 ↔ ∀ t ∈ y, t ≠ t0 → t ∈ z := by
  have rb : ∀ t, t < 32 → bt (restM (chM y) t0) t = (decide (t ∈ y) && !decide (t = t0)) := fun t ht => by
    unfold restM
    rw [b_and, m1_xor_bt _ ht, chM_bt ht, one_bt ht0 ht]
  constructor
  · intro e t ht hne
    have t32 := hy t ht
    have : bt (chM z &&& restM (chM y) t0) t = true := by rw [e, rb t t32, decide_eq_true ht, decide_eq_false hne]; rfl
    rw [b_and, chM_bt t32, Bool.and_eq_true] at this
    exact of_decide_eq_true this.1
  · intro h
    apply b_ext
    intro t ht
    rw [b_and, rb t ht, chM_bt ht]
    by_cases c1 : t ∈ y
    · by_cases c2 : t = t0
      · rw [decide_eq_true c2]; simp
      · rw [decide_eq_true (h t c1 c2)]; simp
    · rw [decide_eq_false c1]; simp
/-- flips, as numbers -/
theorem flip_num (hF : Fam n S) {c j : Nat} (hc : c < (cornS n S).length) (hj : j < n - 1) : ∃ o X, o < (cornS n S).length ∧ o ≠ c ∧ nearR n S c j = some o ∧ X ∉ crL n S c ∧ (∀ t, t ∈ crL n S o ↔ t = X ∨ (t ∈ crL n S c ∧ t ≠ (crL n S c).getD j 0)) ∧ ∀ o', o' < (cornS n S).length → o' ≠ c → (∀ t ∈ crL n S c, t ≠ (crL n S c).getD j 0 → t ∈ crL n S o') → o' = o := by
  have hC := crL_C hF hc
  have hd := hC.1.nodup
  have h32 := hC.2.1.l32
  have hlen := hC.2.2
  have hn2 := hF.1
  have hg : (crL n S c)[j]? = some ((crL n S c).getD j 0) := by rw [List.getD_eq_getElem?_getD, List.getElem?_eq_getElem (by omega)]; rfl
  have ht0 := List.mem_of_getElem? hg
  generalize ht : (crL n S c).getD j 0 = t0 at *
  obtain ⟨X, x1, x2, x3, x4⟩ := flip_ex hF hC ht0
  have ne : ∀ t, t ∈ (crL n S c).erase t0 ↔ t ∈ crL n S c ∧ t ≠ t0 := fun t => by rw [hd.mem_erase_iff]; exact and_comm
  have hXN : X ∉ (crL n S c).erase t0 := fun q => x2 ((ne X).mp q).1
  obtain ⟨m1, m2⟩ := mk_corner hF x3 (List.nodup_cons.mpr ⟨hXN, hd.erase t0⟩) (by rw [List.length_cons, List.length_erase_of_mem ht0]; omega)
  obtain ⟨o, o1, o2⟩ := crL_ix m1
  have om : ∀ t, t ∈ crL n S o ↔ t = X ∨ (t ∈ crL n S c ∧ t ≠ t0) := fun t => by rw [o2, m2 t, List.mem_cons, ne t]
  have oc : o ≠ c := fun e => x2 (by rw [← e, om X]; exact Or.inl rfl)
  have uni : ∀ o', o' < (cornS n S).length → o' ≠ c → (∀ t ∈ crL n S c, t ≠ t0 → t ∈ crL n S o') → o' = o := by
    intro o' h1 h2 h3
    have hC' := crL_C hF h1
    -- one set more
    obtain ⟨Z, z1, z2⟩ : ∃ Z, Z ∈ crL n S o' ∧ Z ∉ (crL n S c).erase t0 := by
      apply Classical.byContradiction
      intro hno
      have := nodup_sub (crL n S o') ((crL n S c).erase t0) hC'.1.nodup (fun t ht => by
        apply Classical.byContradiction
        intro q
        exact hno ⟨t, ht, q⟩)
      rw [List.length_erase_of_mem ht0, hC'.2.2] at this
      omega
    have sub : ∀ t, t ∈ Z :: (crL n S c).erase t0 → t ∈ crL n S o' := fun t ht => by
      rcases List.mem_cons.mp ht with q | q
      · rw [q]; exact z1
      · exact h3 t ((ne t).mp q).1 ((ne t).mp q).2
    have hdZ : (Z :: (crL n S c).erase t0).Nodup := List.nodup_cons.mpr ⟨z2, hd.erase t0⟩
    have eqm : ∀ t, t ∈ crL n S o' → t ∈ Z :: (crL n S c).erase t0 := by
      intro t ht
      apply Classical.byContradiction
      intro hno
      have := nodup_sub (t :: Z :: (crL n S c).erase t0) (crL n S o') (List.nodup_cons.mpr ⟨hno, hdZ⟩) (fun x hx => by
        rcases List.mem_cons.mp hx with q | q
        · rw [q]; exact ht
        · exact sub x q)
      rw [List.length_cons, List.length_cons, List.length_erase_of_mem ht0, hC'.2.2] at this
      omega
    rcases x4 Z z2 (hC'.2.1.mono sub) with e | e
    · exfalso
      apply h2
      refine crL_sub hF h1 hc (fun t ht => ?_)
      rcases List.mem_cons.mp (eqm t ht) with q | q
      · rw [q, e]; exact ht0
      · exact ((ne t).mp q).1
    · refine crL_sub hF h1 o1 (fun t ht => ?_)
      rw [om t]
      rcases List.mem_cons.mp (eqm t ht) with q | q
      · exact Or.inl (q.trans e)
      · exact Or.inr ((ne t).mp q)
  have cond := fun z : List Nat => near_iff (z := z) h32 (h32 t0 ht0)
  refine ⟨o, X, o1, oc, ?_, x2, om, uni⟩
  have e1 : nearR n S c j = flF (restM (chM (crL n S c)) t0) c (cornM n S) 0 := by
    unfold nearR
    show flF (restM (chM (crL n S c)) ((crL n S c).getD j 0)) c (cornM n S) 0 = _
    rw [ht]
  rw [e1]
  cases hq : flF (restM (chM (crL n S c)) t0) c (cornM n S) 0 with
  | none =>
    exfalso
    refine flF_none _ _ hq o _ (cornM_get o1) (by omega) ((cond _).mpr (fun t t1 t2 => (om t).mpr (Or.inr ⟨t1, t2⟩)))
  | some o' =>
    obtain ⟨q1, q2, x, q3, q4⟩ := flF_some _ _ _ hq
    rw [Nat.sub_zero] at q3
    have h1 : o' < (cornS n S).length := by
      have := (List.getElem?_eq_some_iff.mp q3).1
      rw [cornM_len] at this
      exact this
    rw [cornM_get h1] at q3
    cases q3
    rw [uni o' h1 q2 ((cond _).mp q4)]
theorem flU_of (hF : Fam n S) : flU n S := by
  have nr : ∀ {c j o : Nat}, nearR n S c j = some o → nrN n S c j = o := fun h => by unfold nrN; rw [h]; rfl
  refine ⟨fun c j hc hj => ?_, fun c j hc hj => ?_, fun a c ha hc h => crL_sub hF ha hc h, fun c j o hc hj ho hne h => ?_, fun c j hc hj t ht hne => ?_⟩
  · obtain ⟨o, X, o1, o2, o3, -⟩ := flip_num hF hc hj
    exact ⟨o, o1, o3⟩
  · obtain ⟨o, X, o1, o2, o3, -⟩ := flip_num hF hc hj
    rw [nr o3]; exact o2
  · obtain ⟨o', X, o1, o2, o3, o4, o5, o6⟩ := flip_num hF hc hj
    rw [nr o3]; exact o6 o ho hne h
  · obtain ⟨o', X, o1, o2, o3, o4, o5, o6⟩ := flip_num hF hc hj
    rw [nr o3, o5]; exact Or.inr ⟨ht, hne⟩
end
