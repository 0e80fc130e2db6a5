/-! MATHEMATICS, 3: nests as lists, corners -/
theorem nodup_sub : ∀ (l m : List Nat), l.Nodup → (∀ x ∈ l, x ∈ m) → l.length ≤ m.length
  | [], m, _, _ => Nat.zero_le _
  | x :: l, m, hn, h => by
    obtain ⟨n1, n2⟩ := List.nodup_cons.mp hn
    have hx := h x List.mem_cons_self
    have := nodup_sub l (m.erase x) n2 (fun u hu => by
      have hux : u ≠ x := fun e => n1 (e ▸ hu)
      exact (List.mem_erase_of_ne hux).mpr (h u (List.mem_cons_of_mem _ hu)))
    rw [List.length_erase_of_mem hx] at this
    have := List.length_pos_of_mem hx
    rw [List.length_cons]
    omega
/-- where a row maps one to one, it is no longer than what it maps to -/
theorem inj_len {l m : List Nat} (f : Nat → Nat) (hn : l.Nodup) (hf : ∀ x ∈ l, f x ∈ m) (hi : ∀ x ∈ l, ∀ y ∈ l, f x = f y → x = y) : l.length ≤ m.length := by
  have h1 : (l.map f).Nodup := by
    induction l with
    | nil => exact List.nodup_nil
    | cons x l ih =>
      obtain ⟨n1, n2⟩ := List.nodup_cons.mp hn
      rw [List.map_cons, List.nodup_cons]
      refine ⟨fun z => ?_, ih n2 (fun u hu => hf u (List.mem_cons_of_mem _ hu)) (fun u hu v hv => hi u (List.mem_cons_of_mem _ hu) v (List.mem_cons_of_mem _ hv))⟩
      obtain ⟨u, hu, e⟩ := List.mem_map.mp z
      have := hi u (List.mem_cons_of_mem _ hu) x List.mem_cons_self e
      exact n1 (this ▸ hu)
  have := nodup_sub (l.map f) m h1 (fun x hx => by
    obtain ⟨u, hu, e⟩ := List.mem_map.mp hx
    exact e ▸ hf u hu)
  rw [List.length_map] at this
  exact this
section
variable {n : Nat} {S : Int32}
/-- a set comes to a nest -/
theorem nt_nst (hF : Fam n S) {y : List Nat} (h : Nst n S (· ∈ y)) {s : Nat} (hs : bt S s = true) (hsW : s < 2 ^ n - 1) : ntP S (chM y) s ↔ Nst n S (fun u => u ∈ y ∨ u = s) := by
  have s32 := bt_lt hs
  have s1 := (hF.rg hs).1
  have h32 : ∀ t ∈ y, t < 32 := fun t ht => bt_lt (h.1 t ht).2
  have em : ∀ t, t ∈ els (chM y) ↔ t ∈ y := fun t => by
    rw [els_mem]
    constructor
    · rintro ⟨a, b⟩; rw [chM_bt a] at b; exact of_decide_eq_true b
    · intro ht; exact ⟨h32 t ht, by rw [chM_bt (h32 t ht)]; exact decide_eq_true ht⟩
  constructor
  · rintro ⟨hl, hj⟩
    have lams : ∀ t, t ∈ y → dj t s ∨ sbs t s ∨ sbs s t := by
      intro t ht
      rcases hl t ((em t).mpr ht) with q | q | q
      · exact Or.inl (fun a b c => dis_iff.mp q a c b)
      · exact Or.inr (Or.inl (sub_iff.mp (or_iff.mp (by rw [Nat.or_comm]; exact q))))
      · exact Or.inr (Or.inr (sub_iff.mp (or_iff.mp q)))
    refine ⟨fun t ht => ?_, fun t u ht hu => ?_, fun y' U hy he hU hS => ?_⟩
    · rcases ht with z | z
      · exact h.1 t z
      · rw [z]; exact ⟨hsW, hs⟩
    · rcases ht with z | z
      · rcases hu with w | w
        · exact h.2.1 t u z w
        · rw [w]; exact lams t z
      · rcases hu with w | w
        · rw [z]
          rcases lams u w with q | q | q
          · exact Or.inl (fun a b c => q a c b)
          · exact Or.inr (Or.inr q)
          · exact Or.inr (Or.inl q)
        · rw [z, w]; exact Or.inr (Or.inl (sbs.refl _))
    · by_cases ys : y' s
      · by_cases c1 : ∃ u, y' u ∧ u ∈ y ∧ sbs s u
        · obtain ⟨u0, b1, b2, b3⟩ := c1
          exact (h.2.2 (fun u => y' u ∧ u ∈ y) U (fun u hu => hu.2) ⟨u0, b1, b2⟩ (fun q => by
            rw [hU q]
            constructor
            · rintro ⟨u, u1, u2⟩
              rcases hy u u1 with z | z
              · exact ⟨u, ⟨u1, z⟩, u2⟩
              · rw [z] at u2; exact ⟨u0, ⟨b1, b2⟩, b3 q u2⟩
            · rintro ⟨u, u1, u2⟩; exact ⟨u, u1.1, u2⟩) hS).1
        · by_cases c2 : ∃ u, y' u ∧ u ∈ y ∧ dj u s
          · exfalso
            obtain ⟨u0, b1, b2, b3⟩ := c2
            apply hj
            have mb : ∀ t, t < 32 → (bt (maskOf (fun t => pb (y' t ∧ t ∈ y ∧ dj t s))) t = true ↔ y' t ∧ t ∈ y ∧ dj t s) := fun t ht => by rw [maskOf_bt _ ht]; exact pb_true
            refine ⟨maskOf (fun t => pb (y' t ∧ t ∈ y ∧ dj t s)), fun e => ?_, ?_, ?_⟩
            · have := (mb u0 (h32 u0 b2)).mpr ⟨b1, b2, b3⟩
              rw [e, b_0] at this; cases this
            · apply b_ext
              intro t ht
              rw [b_and]
              cases hb : bt (maskOf (fun t => pb (y' t ∧ t ∈ y ∧ dj t s))) t with
              | false => rfl
              | true =>
                obtain ⟨z1, z2, z3⟩ := (mb t ht).mp hb
                unfold apM
                rw [maskOf_bt _ ht, chM_bt ht, decide_eq_true z2, decide_eq_true (dis_iff.mpr (fun a b c => z3 a c b))]; rfl
            · have eU : unL (els (maskOf (fun t => pb (y' t ∧ t ∈ y ∧ dj t s)))) s = U := Nat.eq_of_testBit_eq (fun q => bool_iff (by
                rw [unL_tb, hU q]
                constructor
                · rintro (z | ⟨t, t1, t2⟩)
                  · exact ⟨s, ys, z⟩
                  · obtain ⟨a, b⟩ := els_mem.mp t1
                    exact ⟨t, ((mb t a).mp b).1, t2⟩
                · rintro ⟨t, t1, t2⟩
                  rcases hy t t1 with z | z
                  · rcases lams t z with w | w | w
                    · exact Or.inr ⟨t, els_mem.mpr ⟨h32 t z, (mb t (h32 t z)).mpr ⟨t1, z, w⟩⟩, t2⟩
                    · exact Or.inl (w q t2)
                    · exact absurd ⟨t, t1, z, w⟩ c1
                  · rw [z] at t2; exact Or.inl t2))
              rw [eU]; exact hS
          · have eU : U = s := Nat.eq_of_testBit_eq (fun q => bool_iff (by
              rw [hU q]
              constructor
              · rintro ⟨t, t1, t2⟩
                rcases hy t t1 with z | z
                · rcases lams t z with w | w | w
                  · exact absurd ⟨t, t1, z, w⟩ c2
                  · exact w q t2
                  · exact absurd ⟨t, t1, z, w⟩ c1
                · rw [z] at t2; exact t2
              · intro z; exact ⟨s, ys, z⟩))
            rw [eU]; exact ys
      · exact h.2.2 y' U (fun u hu => by
          rcases hy u hu with z | z
          · exact z
          · rw [z] at hu; exact absurd hu ys) he hU hS
  · intro h2
    refine ⟨fun t ht => ?_, ?_⟩
    · rcases h2.2.1 t s (Or.inl ((em t).mp ht)) (Or.inr rfl) with q | q | q
      · exact Or.inl (dis_iff.mpr (fun a b c => q a c b))
      · exact Or.inr (Or.inl (by rw [Nat.or_comm]; exact or_iff.mpr (sub_iff.mpr q)))
      · exact Or.inr (Or.inr (or_iff.mpr (sub_iff.mpr q)))
    · rintro ⟨m, m0, mA, mS⟩
      have hm : ∀ t, t ∈ els m → t ∈ y ∧ dj t s := by
        intro t ht
        obtain ⟨a, b⟩ := els_mem.mp ht
        have : bt (m &&& apM (chM y) s) t = true := by rw [mA]; exact b
        unfold apM at this
        rw [b_and, maskOf_bt _ a, chM_bt a] at this
        simp only [Bool.and_eq_true, decide_eq_true_eq] at this
        exact ⟨this.2.1, fun q z1 z2 => dis_iff.mp this.2.2 q z2 z1⟩
      obtain ⟨t0, l0, ht0⟩ : ∃ t l, els m = t :: l := by
        cases he : els m with
        | nil => exact absurd (els_nil.mp he) m0
        | cons t l => exact ⟨t, l, rfl⟩
      have t0m : t0 ∈ els m := by rw [ht0]; exact List.mem_cons_self
      have := h2.2.2 (fun u => u ∈ els m ∨ u = s) (unL (els m) s) (fun u hu => by
        rcases hu with z | z
        · exact Or.inl (hm u z).1
        · exact Or.inr z) ⟨s, Or.inr rfl⟩ (fun q => by
        rw [unL_tb]
        constructor
        · rintro (z | ⟨t, t1, t2⟩)
          · exact ⟨s, Or.inr rfl, z⟩
          · exact ⟨t, Or.inl t1, t2⟩
        · rintro ⟨t, t1 | t1, t2⟩
          · exact Or.inr ⟨t, t1, t2⟩
          · rw [t1] at t2; exact Or.inl t2) mS
      rcases this with z | z
      · obtain ⟨q, hq⟩ := has_bit s1
        exact (hm _ z).2 q ((unL_tb _ _ _).mpr (Or.inl hq)) hq
      · obtain ⟨a, b⟩ := hm t0 t0m
        obtain ⟨q, hq⟩ := has_bit (hF.rg (h.1 t0 a).2).1
        have : (unL (els m) s).testBit q = true := (unL_tb _ _ _).mpr (Or.inr ⟨t0, t0m, hq⟩)
        rw [z] at this
        exact b q hq this
def srt (y : List Nat) : Prop := y.Pairwise (fun a b => a < b)
theorem srt.nodup {y : List Nat} (h : srt y) : y.Nodup := h.imp (fun h => Nat.ne_of_lt h)
theorem Nst.lamL {y : List Nat} (h : Nst n S (· ∈ y)) : y.Pairwise lam := List.pairwise_iff_getElem.mpr (fun i j hi hj _ => lam_iff.mpr (h.2.1 _ _ (List.getElem_mem hi) (List.getElem_mem hj)))
theorem take_nst (hF : Fam n S) {y : List Nat} (h : Nst n S (· ∈ y)) (hd : y.Nodup) {s : Nat} (hs : bt S s = true) (hsW : s < 2 ^ n - 1) : TakesR S y s ↔ Nst n S (· ∈ y ++ [s]) := by
  rw [takes_nt h.lamL hd (fun t ht => ⟨(hF.rg (h.1 t ht).2).1, bt_lt (h.1 t ht).2⟩) (bt_lt hs), nt_nst hF h hs hsW]
  have e : (fun u => u ∈ y ∨ u = s) = (fun u => u ∈ y ++ [s]) := by funext u; simp
  rw [e]
theorem gnL_iff (hF : Fam n S) : ∀ (m s : Nat) (ns y : List Nat), s + m ≤ 2 ^ n - 1 → ns.length < n - 1 → srt ns → Nst n S (· ∈ ns) → (∀ t ∈ ns, t < s) → (y ∈ gnL n S m s ns ↔ ∃ z, z ≠ [] ∧ y = ns ++ z ∧ srt z ∧ (∀ t ∈ z, s ≤ t ∧ t < s + m) ∧ Nst n S (· ∈ y) ∧ y.length ≤ n - 1)
  | 0, s, ns, y, _, _, _, _, _ => by
    constructor
    · intro h; simp [gnL] at h
    · rintro ⟨z, z0, -, -, z3, -⟩
      exfalso
      cases z with
      | nil => exact z0 rfl
      | cons a l => have := z3 a List.mem_cons_self; omega
  | m + 1, s, ns, y, hsm, hl, hs, hN, hlt => by
    have p5 := pow5 hF.2.1
    have hlt1 : ∀ t ∈ ns, t < s + 1 := fun t ht => by have := hlt t ht; omega
    have srt1 : srt (ns ++ [s]) := List.pairwise_append.mpr ⟨hs, List.pairwise_singleton _ _, fun a ha b hb => by
      have : b = s := by simpa using hb
      rw [this]; exact hlt a ha⟩
    have hlt2 : ∀ t ∈ ns ++ [s], t < s + 1 := fun t ht => by
      rcases List.mem_append.mp ht with q | q
      · exact hlt1 t q
      · have : t = s := by simpa using q
        omega
    have len1 : (ns ++ [s]).length = ns.length + 1 := by rw [List.length_append]; rfl
    have ih2 := gnL_iff hF m (s + 1) ns y (by omega) hl hs hN hlt1
    rw [gnL_nd, List.mem_append, ih2]
    constructor
    · rintro (h | ⟨z, z0, z1, z2, z3, z4, z5⟩)
      · split at h
        · rename_i hq
          rw [Bool.and_eq_true, pb_true] at hq
          have hN1 := (take_nst hF hN hs.nodup hq.1 (by omega)).mp hq.2
          unfold ndL at h
          rcases List.mem_cons.mp h with e | e
          · refine ⟨[s], by simp, e, List.pairwise_singleton _ _, fun t ht => ?_, by rw [e]; exact hN1, by rw [e, len1]; omega⟩
            have : t = s := by simpa using ht
            omega
          · split at e
            · cases e
            · rename_i hne
              obtain ⟨z, z0, z1, z2, z3, z4, z5⟩ := (gnL_iff hF m (s + 1) (ns ++ [s]) y (by omega) (by omega) srt1 hN1 hlt2).mp e
              refine ⟨s :: z, by simp, by rw [z1, List.append_assoc]; rfl, List.pairwise_cons.mpr ⟨fun a ha => by have := z3 a ha; omega, z2⟩, fun t ht => ?_, z4, z5⟩
              rcases List.mem_cons.mp ht with q | q
              · omega
              · have := z3 t q; omega
        · cases h
      · exact ⟨z, z0, z1, z2, fun t ht => by have := z3 t ht; omega, z4, z5⟩
    · rintro ⟨z, z0, z1, z2, z3, z4, z5⟩
      cases z with
      | nil => exact absurd rfl z0
      | cons a l =>
        obtain ⟨p1, p2⟩ := List.pairwise_cons.mp z2
        have ha := z3 a List.mem_cons_self
        by_cases e : a = s
        · subst e
          left
          have hN1 : Nst n S (· ∈ ns ++ [a]) := z4.mono (fun t ht => by
            rw [z1]
            rcases List.mem_append.mp ht with q | q
            · exact List.mem_append_left _ q
            · have : t = a := by simpa using q
              rw [this]; exact List.mem_append_right _ List.mem_cons_self)
          have haS := (z4.1 a (by rw [z1]; exact List.mem_append_right _ List.mem_cons_self)).2
          have htk := (take_nst hF hN hs.nodup haS (by omega)).mpr hN1
          rw [if_pos (by rw [haS, pb_true.mpr htk]; rfl)]
          unfold ndL
          cases l with
          | nil => rw [z1]; exact List.mem_cons_self
          | cons b l =>
            refine List.mem_cons_of_mem _ ?_
            have hlen : (ns ++ [a]).length ≠ n - 1 := by
              rw [z1, List.length_append, List.length_cons, List.length_cons] at z5
              omega
            rw [if_neg hlen]
            refine (gnL_iff hF m (a + 1) (ns ++ [a]) y (by omega) (by rw [z1, List.length_append, List.length_cons, List.length_cons] at z5; omega) srt1 hN1 hlt2).mpr ⟨b :: l, by simp, by rw [z1, List.append_assoc]; rfl, p2, fun t ht => ?_, z4, z5⟩
            have h1 := p1 t ht
            have h2 := z3 t (List.mem_cons_of_mem _ ht)
            omega
        · right
          refine ⟨a :: l, by simp, z1, z2, fun t ht => ?_, z4, z5⟩
          have h2 := z3 t ht
          rcases List.mem_cons.mp ht with q | q
          · omega
          · have := p1 t q; omega
theorem Nst.nil : Nst n S (· ∈ ([] : List Nat)) := ⟨fun t ht => by simp at ht, fun t u ht => by simp at ht, fun y U hy ⟨t, ht⟩ => by have := hy t ht; simp at this⟩
theorem allN_iff (hF : Fam n S) {y : List Nat} : y ∈ allN n S ↔ srt y ∧ Nst n S (· ∈ y) ∧ y.length ≤ n - 1 := by
  have hn2 := hF.1
  have p4 : 4 ≤ 2 ^ n := (Nat.pow_le_pow_right (by omega) hn2 : 2 ^ 2 ≤ 2 ^ n)
  unfold allN ndL
  rw [List.mem_cons, if_neg (by simp; omega), gnL_iff hF (2 ^ n - 2) 1 [] y (by omega) (by simp; omega) List.Pairwise.nil Nst.nil (fun t ht => by cases ht)]
  constructor
  · rintro (e | ⟨z, z0, z1, z2, z3, z4, z5⟩)
    · rw [e]; exact ⟨List.Pairwise.nil, Nst.nil, by simp⟩
    · rw [List.nil_append] at z1
      rw [z1] at z4 z5 ⊢
      exact ⟨z2, z4, z5⟩
  · rintro ⟨h1, h2, h3⟩
    cases y with
    | nil => exact Or.inl rfl
    | cons a l =>
      refine Or.inr ⟨a :: l, by simp, rfl, h1, fun t ht => ?_, h2, h3⟩
      have := (h2.1 t ht)
      have := (hF.rg this.2).1
      omega
/-- a corner -/
def isC (n : Nat) (S : Int32) (y : List Nat) : Prop := srt y ∧ Nst n S (· ∈ y) ∧ y.length = n - 1
theorem corn_iff (hF : Fam n S) {y : List Nat} : y ∈ cornS n S ↔ isC n S y := by
  rw [cornS_mem]
  unfold corL
  rw [List.mem_filter, allN_iff hF, decide_eq_true_eq]
  constructor
  · rintro ⟨⟨a, b, c⟩, d⟩; exact ⟨a, b, d⟩
  · rintro ⟨a, b, c⟩; exact ⟨⟨a, b, by omega⟩, c⟩
/-- a nest has fewer sets than there are points -/
theorem nst_len (hF : Fam n S) {y : List Nat} (h : Nst n S (· ∈ y)) (hd : y.Nodup) : y.length + 1 ≤ n := by
  have hW : (2 ^ n - 1) ∉ y := fun q => by have := (h.1 _ q).1; omega
  have hd1 : ((2 ^ n - 1) :: y).Nodup := List.nodup_cons.mpr ⟨hW, hd⟩
  have hch : ∀ t, ∃ p, t ∈ (2 ^ n - 1) :: y → p < n ∧ Own n (· ∈ y) p t := by
    intro t
    by_cases c : t ∈ (2 ^ n - 1) :: y
    · obtain ⟨p, hp⟩ := own_pt hF h (t := t) (by
        rcases List.mem_cons.mp c with q | q
        · exact Or.inr q
        · exact Or.inl q)
      exact ⟨p, fun _ => hp⟩
    · exact ⟨0, fun q => absurd q c⟩
  have hf := fun t => Classical.choose_spec (hch t)
  have := inj_len (l := (2 ^ n - 1) :: y) (m := List.range n) (fun t => Classical.choose (hch t)) hd1 (fun t ht => List.mem_range.mpr (hf t ht).1) (fun t ht u hu e => by
    have h1 := (hf t ht).2
    have h2 := (hf u hu).2
    have e2 : Classical.choose (hch t) = Classical.choose (hch u) := e
    rw [e2] at h1
    exact h1.uniq h2)
  rw [List.length_cons, List.length_range] at this
  exact this
/-- two points with one set, where sets are too few -/
theorem two_own (hF : Fam n S) {y : List Nat} (h : Nst n S (· ∈ y)) (hl : y.length + 1 < n) : ∃ a b t, a < n ∧ b < n ∧ a ≠ b ∧ Own n (· ∈ y) a t ∧ Own n (· ∈ y) b t := by
  apply Classical.byContradiction
  intro hno
  have hch : ∀ p, ∃ t, p < n → Own n (· ∈ y) p t := by
    intro p
    by_cases c : p < n
    · obtain ⟨t, ht⟩ := Own.ex hF h c
      exact ⟨t, fun _ => ht⟩
    · exact ⟨0, fun q => absurd q c⟩
  have hf := fun p => Classical.choose_spec (hch p)
  have := inj_len (l := List.range n) (m := (2 ^ n - 1) :: y) (fun p => Classical.choose (hch p)) List.nodup_range (fun p hp => by
    rcases (hf p (List.mem_range.mp hp)).1 with q | q
    · exact List.mem_cons_of_mem _ q
    · rw [show Classical.choose (hch p) = 2 ^ n - 1 from q]; exact List.mem_cons_self) (fun p hp q hq e => by
    apply Classical.byContradiction
    intro hpq
    have h1 := hf p (List.mem_range.mp hp)
    have h2 := hf q (List.mem_range.mp hq)
    have e2 : Classical.choose (hch p) = Classical.choose (hch q) := e
    rw [← e2] at h2
    exact hno ⟨p, q, _, List.mem_range.mp hp, List.mem_range.mp hq, hpq, h1, h2⟩)
  rw [List.length_cons, List.length_range] at this
  omega
/-- in a corner each point has a set of its own -/
theorem own_inj (hF : Fam n S) {y : List Nat} (h : Nst n S (· ∈ y)) (hd : y.Nodup) (hl : y.length + 1 = n) {a b t : Nat} (ha : a < n) (hb : b < n) (h1 : Own n (· ∈ y) a t) (h2 : Own n (· ∈ y) b t) : a = b := by
  apply Classical.byContradiction
  intro hab
  obtain ⟨X, hX⟩ := grt_ex hF ha hab h1.2.1
  obtain ⟨x1, x2⟩ := ext_nst hF h hb h1 h2 hX
  have e : (fun u => u ∈ y ∨ u = X) = (fun u => u ∈ X :: y) := by funext u; simp [or_comm]
  rw [e] at x2
  have := nst_len hF x2 (List.nodup_cons.mpr ⟨x1, hd⟩)
  rw [List.length_cons] at this
  omega
end
