/-! MATHEMATICS, 2: nests: own points, what may come -/
def sbs (a b : Nat) : Prop := ∀ q, a.testBit q = true → b.testBit q = true
def dj (a b : Nat) : Prop := ∀ q, a.testBit q = true → b.testBit q = true → False
theorem sbs.antisymm {a b : Nat} (h1 : sbs a b) (h2 : sbs b a) : a = b := Nat.eq_of_testBit_eq (fun q => bool_iff ⟨h1 q, h2 q⟩)
theorem sbs.le {a b : Nat} (h : sbs a b) : a ≤ b := and_le_of (sub_iff.mpr h)
theorem sbs.refl (a : Nat) : sbs a a := fun _ h => h
theorem sbs.trans {a b c : Nat} (h1 : sbs a b) (h2 : sbs b c) : sbs a c := fun q h => h2 q (h1 q h)
theorem lam_iff {t s : Nat} : lam t s ↔ dj t s ∨ sbs t s ∨ sbs s t := by
  unfold lam
  rw [dis_iff, sub_iff]
  constructor
  · rintro (h | h | h)
    · exact Or.inl h
    · exact Or.inr (Or.inl h)
    · exact Or.inr (Or.inr (sub_iff.mp (by rw [Nat.and_comm]; exact h)))
  · rintro (h | h | h)
    · exact Or.inl h
    · exact Or.inr (Or.inl h)
    · exact Or.inr (Or.inr (by rw [Nat.and_comm]; exact sub_iff.mpr h))
theorem has_bit {t : Nat} (h : 1 ≤ t) : ∃ q, t.testBit q = true := by
  apply Classical.byContradiction
  intro hno
  have : t = 0 := Nat.eq_of_testBit_eq (fun q => by
    rw [Nat.zero_testBit]
    cases hb : t.testBit q with
    | false => rfl
    | true => exact absurd ⟨q, hb⟩ hno)
  omega
theorem bt_lt {S : Int32} {t : Nat} (h : bt S t = true) : t < 32 := by
  rcases Nat.lt_or_ge t 32 with q | q
  · exact q
  · rw [b_big q] at h; cases h
theorem Fam.rg {n : Nat} {S : Int32} (hF : Fam n S) {t : Nat} (h : bt S t = true) : 1 ≤ t ∧ t < 2 ^ n := hF.2.2.1 t (bt_lt h) h
theorem pt_lt {n t q : Nat} (ht : t < 2 ^ n) (h : t.testBit q = true) : q < n := by
  rcases Nat.lt_or_ge q n with c | c
  · exact c
  · rw [Nat.testBit_lt_two_pow (Nat.lt_of_lt_of_le ht (Nat.pow_le_pow_right (by omega) c))] at h; cases h
theorem sub_W {n t : Nat} (ht : t < 2 ^ n) : sbs t (2 ^ n - 1) := fun q h => whole_tb (pt_lt ht h)
theorem not_W {n t b : Nat} (ht : t < 2 ^ n) (hb : b < n) (h : ¬ t.testBit b = true) : t < 2 ^ n - 1 := by
  have : t ≠ 2 ^ n - 1 := fun e => h (by rw [e]; exact whole_tb hb)
  omega
/-- what meets s joins it -/
theorem join_all {n : Nat} {S : Int32} (hF : Fam n S) {s : Nat} (hs : bt S s = true) (y : Nat → Prop) (hy : ∀ t, y t → bt S t = true ∧ ¬ dj t s) : ∀ k, ∃ U, bt S U = true ∧ ∀ q, U.testBit q = true ↔ s.testBit q = true ∨ ∃ t, t < k ∧ y t ∧ t.testBit q = true
  | 0 => ⟨s, hs, fun q => ⟨Or.inl, fun h => by
      rcases h with h | ⟨t, ht, _⟩
      · exact h
      · omega⟩⟩
  | k + 1 => by
    obtain ⟨U, h1, h2⟩ := join_all hF hs y hy k
    by_cases c : y k
    · refine ⟨U ||| k, ?_, fun q => ?_⟩
      · refine hF.2.2.2.2.2 U k (bt_lt h1) (bt_lt (hy k c).1) h1 (hy k c).1 (fun e => (hy k c).2 (fun q a b => ?_))
        exact dis_iff.mp e q ((h2 q).mpr (Or.inl b)) a
      · rw [Nat.testBit_or, Bool.or_eq_true, h2 q]
        constructor
        · rintro ((h | ⟨t, ht, h3, h4⟩) | h)
          · exact Or.inl h
          · exact Or.inr ⟨t, by omega, h3, h4⟩
          · exact Or.inr ⟨k, by omega, c, h⟩
        · rintro (h | ⟨t, ht, h3, h4⟩)
          · exact Or.inl (Or.inl h)
          · by_cases e : t = k
            · subst e; exact Or.inr h4
            · exact Or.inl (Or.inr ⟨t, by omega, h3, h4⟩)
    · refine ⟨U, h1, fun q => ?_⟩
      rw [h2 q]
      constructor
      · rintro (h | ⟨t, ht, h3, h4⟩)
        · exact Or.inl h
        · exact Or.inr ⟨t, by omega, h3, h4⟩
      · rintro (h | ⟨t, ht, h3, h4⟩)
        · exact Or.inl h
        · by_cases e : t = k
          · subst e; exact absurd h3 c
          · exact Or.inr ⟨t, by omega, h3, h4⟩
def isU (y : Nat → Prop) (U : Nat) : Prop := ∀ q, U.testBit q = true ↔ ∃ t, y t ∧ t.testBit q = true
/-- a nest -/
def Nst (n : Nat) (S : Int32) (N : Nat → Prop) : Prop := (∀ t, N t → t < 2 ^ n - 1 ∧ bt S t = true) ∧ (∀ t u, N t → N u → dj t u ∨ sbs t u ∨ sbs u t) ∧ ∀ (y : Nat → Prop) (U : Nat), (∀ t, y t → N t) → (∃ t, y t) → isU y U → bt S U = true → y U
/-- with WHOLE -/
def Pl (n : Nat) (N : Nat → Prop) (t : Nat) : Prop := N t ∨ t = 2 ^ n - 1
/-- t is the smallest set around p -/
def Own (n : Nat) (N : Nat → Prop) (p t : Nat) : Prop := Pl n N t ∧ t.testBit p = true ∧ ∀ u, Pl n N u → u.testBit p = true → sbs t u
section
variable {n : Nat} {S : Int32} {N : Nat → Prop}
theorem Nst.mono (h : Nst n S N) {M : Nat → Prop} (hM : ∀ t, M t → N t) : Nst n S M := ⟨fun t ht => h.1 t (hM t ht), fun t u ht hu => h.2.1 t u (hM t ht) (hM u hu), fun y U hy he hU hS => h.2.2 y U (fun t ht => hM t (hy t ht)) he hU hS⟩
theorem Nst.pl (hF : Fam n S) (h : Nst n S N) {t : Nat} (ht : Pl n N t) : bt S t = true ∧ t < 2 ^ n := by
  have p1 : 1 ≤ 2 ^ n := Nat.one_le_two_pow
  rcases ht with q | q
  · have := h.1 t q; exact ⟨this.2, by omega⟩
  · rw [q]; exact ⟨hF.2.2.2.2.1, by omega⟩
theorem Nst.lam2 (hF : Fam n S) (h : Nst n S N) {t u : Nat} (ht : Pl n N t) (hu : Pl n N u) : dj t u ∨ sbs t u ∨ sbs u t := by
  rcases hu with q | q
  · rcases ht with z | z
    · exact h.2.1 t u z q
    · rw [z]; exact Or.inr (Or.inr (sub_W (h.pl hF (Or.inl q)).2))
  · rw [q]; exact Or.inr (Or.inl (sub_W (h.pl hF ht).2))
theorem Own.uniq {p t u : Nat} (h1 : Own n N p t) (h2 : Own n N p u) : t = u := (h1.2.2 u h2.1 h2.2.1).antisymm (h2.2.2 t h1.1 h1.2.1)
theorem Own.ex (hF : Fam n S) (h : Nst n S N) {p : Nat} (hp : p < n) : ∃ t, Own n N p t := by
  obtain ⟨t, ⟨h1, h2⟩, h3⟩ := pk_least (fun t => Pl n N t ∧ t.testBit p = true) ⟨2 ^ n - 1, Or.inr rfl, whole_tb hp⟩
  refine ⟨t, h1, h2, fun u hu hup => ?_⟩
  rcases h.lam2 hF h1 hu with q | q | q
  · exact absurd (q p h2 hup) id
  · exact q
  · have := q.le
    rcases Nat.lt_or_ge u t with c | c
    · exact absurd ⟨hu, hup⟩ (h3 u c)
    · have : u = t := by omega
      rw [this]; exact sbs.refl _
/-- each set has a point of its own -/
theorem own_pt (hF : Fam n S) (h : Nst n S N) {t : Nat} (ht : Pl n N t) : ∃ p, p < n ∧ Own n N p t := by
  apply Classical.byContradiction
  intro hno
  obtain ⟨tS, t2⟩ := h.pl hF ht
  have t1 := (hF.rg tS).1
  -- every point has a smaller set
  have key : ∀ q, t.testBit q = true → ∃ u, N u ∧ sbs u t ∧ u ≠ t ∧ u.testBit q = true := by
    intro q hq
    have hqn := pt_lt t2 hq
    obtain ⟨u, hu⟩ := Own.ex hF h hqn
    have hut := hu.2.2 t ht hq
    have hne : u ≠ t := fun e => hno ⟨q, hqn, e ▸ hu⟩
    rcases hu.1 with z | z
    · exact ⟨u, z, hut, hne, hu.2.1⟩
    · exfalso
      apply hne
      have h1 := sub_W t2
      rw [← z] at h1
      exact hut.antisymm h1
  obtain ⟨q0, hq0⟩ := has_bit t1
  obtain ⟨u0, a1, a2, a3, a4⟩ := key q0 hq0
  have := h.2.2 (fun u => N u ∧ sbs u t ∧ u ≠ t) t (fun u hu => hu.1) ⟨u0, a1, a2, a3⟩ (fun q => ⟨fun hq => by
    obtain ⟨u, b1, b2, b3, b4⟩ := key q hq
    exact ⟨u, ⟨b1, b2, b3⟩, b4⟩, fun ⟨u, hu, hq⟩ => hu.2.1 q hq⟩) tS
  exact this.2.2 rfl
/-- the smallest set of a nest around a set of the family has a point of it for its own -/
theorem own_in (hF : Fam n S) (h : Nst n S N) {s : Nat} (hs : bt S s = true) : ∃ t q, Pl n N t ∧ sbs s t ∧ q < n ∧ s.testBit q = true ∧ Own n N q t ∧ ∀ u, Pl n N u → sbs s u → sbs t u := by
  obtain ⟨s1, s2⟩ := hF.rg hs
  obtain ⟨q0, hq0⟩ := has_bit s1
  obtain ⟨t, ⟨h1, h2⟩, h3⟩ := pk_least (fun t => Pl n N t ∧ sbs s t) ⟨2 ^ n - 1, Or.inr rfl, sub_W s2⟩
  have hmin : ∀ u, Pl n N u → sbs s u → sbs t u := by
    intro u hu hsu
    rcases h.lam2 hF h1 hu with q | q | q
    · exact absurd (q q0 (h2 q0 hq0) (hsu q0 hq0)) id
    · exact q
    · have := q.le
      rcases Nat.lt_or_ge u t with c | c
      · exact absurd ⟨hu, hsu⟩ (h3 u c)
      · have : u = t := by omega
        rw [this]; exact sbs.refl _
  apply Classical.byContradiction
  intro hno
  have key : ∀ q, s.testBit q = true → ∃ u, N u ∧ sbs u t ∧ u ≠ t ∧ u.testBit q = true := by
    intro q hq
    have hqn := pt_lt s2 hq
    obtain ⟨u, hu⟩ := Own.ex hF h hqn
    have hut := hu.2.2 t h1 (h2 q hq)
    have hne : u ≠ t := fun e => hno ⟨t, q, h1, h2, hqn, hq, e ▸ hu, hmin⟩
    rcases hu.1 with z | z
    · exact ⟨u, z, hut, hne, hu.2.1⟩
    · exfalso
      apply hne
      have h5 := sub_W (h.pl hF h1).2
      rw [← z] at h5
      exact hut.antisymm h5
  obtain ⟨V, v1, v2⟩ := join_all hF hs (fun u => N u ∧ sbs u t ∧ u ≠ t ∧ ¬ dj u s) (fun u hu => ⟨(h.1 u hu.1).2, hu.2.2.2⟩) 32
  obtain ⟨u0, a1, a2, a3, a4⟩ := key q0 hq0
  have hV := h.2.2 (fun u => N u ∧ sbs u t ∧ u ≠ t ∧ ¬ dj u s) V (fun u hu => hu.1) ⟨u0, a1, a2, a3, fun z => z q0 a4 hq0⟩ (fun q => by
    rw [v2 q]
    constructor
    · rintro (z | ⟨u, _, u2, u3⟩)
      · obtain ⟨u, b1, b2, b3, b4⟩ := key q z
        exact ⟨u, ⟨b1, b2, b3, fun w => w q b4 z⟩, b4⟩
      · exact ⟨u, u2, u3⟩
    · rintro ⟨u, u2, u3⟩
      exact Or.inr ⟨u, bt_lt (h.1 u u2.1).2, u2, u3⟩) v1
  have hsV : sbs s V := fun q hq => (v2 q).mpr (Or.inl hq)
  have := hmin V (Or.inl hV.1) hsV
  exact hV.2.2.1 (hV.2.1.antisymm this)
/-- the greatest set within t with a, without b -/
def Grt (S : Int32) (t a b X : Nat) : Prop := bt S X = true ∧ X.testBit a = true ∧ sbs X t ∧ ¬ X.testBit b = true ∧ ∀ s, bt S s = true → s.testBit a = true → sbs s t → ¬ s.testBit b = true → sbs s X
theorem grt_ex (hF : Fam n S) {t a b : Nat} (ha : a < n) (hab : a ≠ b) (hat : t.testBit a = true) : ∃ X, Grt S t a b X := by
  have sa := hF.2.2.2.1 a ha
  have tba : ∀ q, (2 ^ a).testBit q = true ↔ q = a := fun q => by rw [Nat.testBit_two_pow, decide_eq_true_eq]; exact ⟨fun z => z.symm, fun z => z.symm⟩
  obtain ⟨X, x1, x2⟩ := join_all hF sa (fun s => bt S s = true ∧ s.testBit a = true ∧ sbs s t ∧ ¬ s.testBit b = true) (fun s hs => ⟨hs.1, fun z => z a hs.2.1 ((tba a).mpr rfl)⟩) 32
  refine ⟨X, x1, (x2 a).mpr (Or.inl ((tba a).mpr rfl)), fun q hq => ?_, fun hb => ?_, fun s s1 s2 s3 s4 q hq => (x2 q).mpr (Or.inr ⟨s, bt_lt s1, ⟨s1, s2, s3, s4⟩, hq⟩)⟩
  · rcases (x2 q).mp hq with z | ⟨s, _, s2, s3⟩
    · rw [(tba q).mp z]; exact hat
    · exact s2.2.2.1 q s3
  · rcases (x2 b).mp hb with z | ⟨s, _, s2, s3⟩
    · exact hab ((tba b).mp z).symm
    · exact s2.2.2.2 s3
theorem Grt.uniq {t a b X Y : Nat} (h1 : Grt S t a b X) (h2 : Grt S t a b Y) : X = Y := (h2.2.2.2.2 X h1.1 h1.2.1 h1.2.2.1 h1.2.2.2.1).antisymm (h1.2.2.2.2 Y h2.1 h2.2.1 h2.2.2.1 h2.2.2.2.1)
/-- where two points have one set, such a set may come -/
theorem ext_nst (hF : Fam n S) (h : Nst n S N) {a b t X : Nat} (hb : b < n) (hoa : Own n N a t) (hob : Own n N b t) (hX : Grt S t a b X) : ¬ N X ∧ Nst n S (fun u => N u ∨ u = X) := by
  obtain ⟨x1, x2, x3, x4, x5⟩ := hX
  have x2n := (hF.rg x1).2
  have t2 := (h.pl hF hoa.1).2
  have nX : ¬ N X := fun z => x4 (hoa.2.2 X (Or.inl z) x2 b hob.2.1)
  -- how sets of N lie to t
  have small : ∀ u, N u → sbs u t → u ≠ t → ¬ u.testBit a = true ∧ ¬ u.testBit b = true := fun u hu h1 h2 => ⟨fun z => h2 (h1.antisymm (hoa.2.2 u (Or.inl hu) z)), fun z => h2 (h1.antisymm (hob.2.2 u (Or.inl hu) z))⟩
  have lamX : ∀ u, N u → dj u X ∨ sbs u X ∨ sbs X u := by
    intro u hu
    rcases h.lam2 hF (Or.inl hu) hoa.1 with q | q | q
    · exact Or.inl (fun z z1 z2 => q z z1 (x3 z z2))
    · by_cases e : u = t
      · rw [e]; exact Or.inr (Or.inr x3)
      · obtain ⟨na, nb⟩ := small u hu q e
        by_cases m : dj u X
        · exact Or.inl m
        · right; left
          have hU : bt S (X ||| u) = true := hF.2.2.2.2.2 X u (bt_lt x1) (bt_lt (h.1 u hu).2) x1 (h.1 u hu).2 (fun z => m (fun w w1 w2 => dis_iff.mp z w w2 w1))
          have := x5 (X ||| u) hU (by rw [Nat.testBit_or, x2]; rfl) (fun w hw => by
            rw [Nat.testBit_or, Bool.or_eq_true] at hw
            rcases hw with hw | hw
            · exact x3 w hw
            · exact q w hw) (fun hw => by
            rw [Nat.testBit_or, Bool.or_eq_true] at hw
            rcases hw with hw | hw
            · exact x4 hw
            · exact nb hw)
          exact fun w hw => this w (by rw [Nat.testBit_or, hw, Bool.or_true])
    · exact Or.inr (Or.inr (x3.trans q))
  refine ⟨nX, fun u hu => ?_, fun u w hu hw => ?_, fun y U hy he hU hS => ?_⟩
  · rcases hu with z | z
    · exact h.1 u z
    · rw [z]; exact ⟨not_W x2n hb x4, x1⟩
  · rcases hu with z | z
    · rcases hw with z2 | z2
      · exact h.2.1 u w z z2
      · rw [z2]; exact lamX u z
    · rcases hw with z2 | z2
      · rw [z]
        rcases lamX w z2 with q | q | q
        · exact Or.inl (fun a b c => q a c b)
        · exact Or.inr (Or.inr q)
        · exact Or.inr (Or.inl q)
      · rw [z, z2]; exact Or.inr (Or.inl (sbs.refl _))
  · by_cases yX : y X
    · have UX : sbs X U := fun q hq => (hU q).mpr ⟨X, yX, hq⟩
      have aU := UX a x2
      by_cases c1 : ∃ u, y u ∧ N u ∧ sbs t u
      · obtain ⟨u0, b1, b2, b3⟩ := c1
        exact (h.2.2 (fun u => y u ∧ N u) U (fun u hu => hu.2) ⟨u0, b1, b2⟩ (fun q => by
          rw [hU q]
          constructor
          · rintro ⟨u, u1, u2⟩
            rcases hy u u1 with z | z
            · exact ⟨u, ⟨u1, z⟩, u2⟩
            · rw [z] at u2
              exact ⟨u0, ⟨b1, b2⟩, b3 q (x3 q u2)⟩
          · rintro ⟨u, u1, u2⟩; exact ⟨u, u1.1, u2⟩) hS).1
      · have cse : ∀ u, y u → N u → dj u t ∨ (sbs u t ∧ u ≠ t) := by
          intro u hu1 hu2
          rcases h.lam2 hF (Or.inl hu2) hoa.1 with q | q | q
          · exact Or.inl q
          · exact Or.inr ⟨q, fun e => c1 ⟨u, hu1, hu2, by rw [e]; exact sbs.refl _⟩⟩
          · exact absurd ⟨u, hu1, hu2, q⟩ c1
        by_cases c2 : ∃ u, y u ∧ N u ∧ dj u t
        · exfalso
          obtain ⟨u0, b1, b2, b3⟩ := c2
          have tN : N t := by
            rcases hoa.1 with z | z
            · exact z
            · exfalso
              obtain ⟨q, hq⟩ := has_bit (hF.rg (h.1 u0 b2).2).1
              exact b3 q hq (by rw [z]; exact sub_W (hF.rg (h.1 u0 b2).2).2 q hq)
          have tS := (h.1 t tN).2
          have hU2 : bt S (U ||| t) = true := hF.2.2.2.2.2 U t (bt_lt hS) (bt_lt tS) hS tS (fun z => dis_iff.mp z a aU hoa.2.1)
          have := h.2.2 (fun u => (y u ∧ N u ∧ dj u t) ∨ u = t) (U ||| t) (fun u hu => by
            rcases hu with z | z
            · exact z.2.1
            · rw [z]; exact tN) ⟨t, Or.inr rfl⟩ (fun q => by
            rw [Nat.testBit_or, Bool.or_eq_true, hU q]
            constructor
            · rintro (⟨u, u1, u2⟩ | z)
              · rcases hy u u1 with w | w
                · rcases cse u u1 w with v | v
                  · exact ⟨u, Or.inl ⟨u1, w, v⟩, u2⟩
                  · exact ⟨t, Or.inr rfl, v.1 q u2⟩
                · rw [w] at u2; exact ⟨t, Or.inr rfl, x3 q u2⟩
              · exact ⟨t, Or.inr rfl, z⟩
            · rintro ⟨u, u1 | u1, u2⟩
              · exact Or.inl ⟨u, u1.1, u2⟩
              · rw [u1] at u2; exact Or.inr u2) hU2
          rcases this with z | z
          · exact z.2.2 a (by rw [Nat.testBit_or, aU]; rfl) hoa.2.1
          · obtain ⟨q, hq⟩ := has_bit (hF.rg (h.1 u0 b2).2).1
            have : (U ||| t).testBit q = true := by rw [Nat.testBit_or, (hU q).mpr ⟨u0, b1, hq⟩]; rfl
            rw [z] at this
            exact b3 q hq this
        · have all : ∀ u, y u → N u → sbs u t ∧ u ≠ t := by
            intro u hu1 hu2
            rcases cse u hu1 hu2 with q | q
            · exact absurd ⟨u, hu1, hu2, q⟩ c2
            · exact q
          have := x5 U hS aU (fun q hq => by
            obtain ⟨u, u1, u2⟩ := (hU q).mp hq
            rcases hy u u1 with z | z
            · exact (all u u1 z).1 q u2
            · rw [z] at u2; exact x3 q u2) (fun hq => by
            obtain ⟨u, u1, u2⟩ := (hU b).mp hq
            rcases hy u u1 with z | z
            · exact (small u z (all u u1 z).1 (all u u1 z).2).2 u2
            · rw [z] at u2; exact x4 u2)
          have : U = X := this.antisymm UX
          rw [this]; exact yX
    · exact h.2.2 y U (fun u hu => by
        rcases hy u hu with z | z
        · exact z
        · rw [z] at hu; exact absurd hu yX) he hU hS
end
