/-! MATHEMATICS, 5: corners are joined; FARTHEST -/
theorem exB_iff (P : Nat → Bool) : ∀ m, exB P m = true ↔ ∃ k, k < m ∧ P k = true
  | 0 => by
    constructor
    · intro h; cases h
    · rintro ⟨k, hk, _⟩; omega
  | m + 1 => by
    rw [exB_succ, Bool.or_eq_true, exB_iff P m]
    constructor
    · rintro (⟨k, hk, h⟩ | h)
      · exact ⟨k, by omega, h⟩
      · exact ⟨m, by omega, h⟩
    · rintro ⟨k, hk, h⟩
      by_cases e : k = m
      · subst e; exact Or.inr h
      · exact Or.inl ⟨k, by omega, h⟩
section
variable {nb : Nat → Nat → Nat} {deg : Nat}
theorem kn_0 {c e : Nat} : knB nb deg 0 c e = true ↔ e = c := by
  show decide (e = c) = true ↔ _
  rw [decide_eq_true_eq]
theorem kn_s {r c e : Nat} : knB nb deg (r + 1) c e = true ↔ knB nb deg r c e = true ∨ ∃ k, k < deg ∧ knB nb deg r (nb c k) e = true := by
  show (knB nb deg r c e || exB (fun k => knB nb deg r (nb c k) e) deg) = true ↔ _
  rw [Bool.or_eq_true, exB_iff]
theorem kn_mono {c e : Nat} : ∀ {r r' : Nat}, r ≤ r' → knB nb deg r c e = true → knB nb deg r' c e = true := by
  intro r r' h
  induction r' with
  | zero => intro z; have : r = 0 := by omega
            subst this; exact z
  | succ r' ih =>
    intro z
    by_cases e2 : r = r' + 1
    · subst e2; exact z
    · exact kn_s.mpr (Or.inl (ih (by omega) z))
theorem kn_trans : ∀ {r a b c r' : Nat}, knB nb deg r a b = true → knB nb deg r' b c = true → knB nb deg (r + r') a c = true
  | 0, a, b, c, r', h1, h2 => by
    rw [kn_0] at h1
    subst h1
    rw [Nat.zero_add]; exact h2
  | r + 1, a, b, c, r', h1, h2 => by
    rw [show r + 1 + r' = (r + r') + 1 by omega]
    rcases kn_s.mp h1 with q | ⟨k, hk, q⟩
    · exact kn_s.mpr (Or.inl (kn_trans q h2))
    · exact kn_s.mpr (Or.inr ⟨k, hk, kn_trans q h2⟩)
theorem kn_one {u k : Nat} (hk : k < deg) : knB nb deg 1 u (nb u k) = true := kn_s.mpr (Or.inr ⟨k, hk, kn_0.mpr rfl⟩)
theorem kn_snoc {d c u k : Nat} (h : knB nb deg d c u = true) (hk : k < deg) : knB nb deg (d + 1) c (nb u k) = true := kn_trans h (kn_one hk)
theorem kn_last : ∀ {r c e : Nat}, knB nb deg (r + 1) c e = true → knB nb deg r c e = true ∨ ∃ e' k, k < deg ∧ knB nb deg r c e' = true ∧ nb e' k = e
  | 0, c, e, h => by
    rcases kn_s.mp h with q | ⟨k, hk, q⟩
    · exact Or.inl q
    · rw [kn_0] at q
      exact Or.inr ⟨c, k, hk, kn_0.mpr rfl, q.symm⟩
  | r + 1, c, e, h => by
    rcases kn_s.mp h with q | ⟨k, hk, q⟩
    · exact Or.inl q
    · rcases kn_last q with z | ⟨e', k', z1, z2, z3⟩
      · exact Or.inl (kn_s.mpr (Or.inr ⟨k, hk, z⟩))
      · exact Or.inr ⟨e', k', z1, kn_s.mpr (Or.inr ⟨k, hk, z2⟩), z3⟩
/-- how far the spreading is right -/
def BV (nb : Nat → Nat → Nat) (deg c i : Nat) (s : BS) : Prop := s.1 c = some 0 ∧ (∀ u d, s.1 u = some d → knB nb deg d c u = true) ∧ (∀ j k x y dx dy : Nat, j ≤ k → s.2[j]? = some x → s.2[k]? = some y → s.1 x = some dx → s.1 y = some dy → dx ≤ dy) ∧ (∀ x dx y dy : Nat, s.2[i]? = some x → s.1 x = some dx → y ∈ s.2 → s.1 y = some dy → dy ≤ dx + 1) ∧ ∀ j x dx k : Nat, j < i → s.2[j]? = some x → s.1 x = some dx → k < deg → ∃ dy, s.1 (nb x k) = some dy ∧ dy ≤ dx + 1
theorem bfS_BV {N c i u j : Nat} {s : BS} (hI : BInv N s) (hV : BV nb deg c i s) (hu : s.2[i]? = some u) (hj : j < deg) (hN : nb u j < N) {du : Nat} (hdu : s.1 u = some du) (hp : ∀ k, k < j → ∃ dy, s.1 (nb u k) = some dy ∧ dy ≤ du + 1) : BV nb deg c i (bfS nb u j s) ∧ (bfS nb u j s).1 u = some du ∧ ∀ k, k < j + 1 → ∃ dy, (bfS nb u j s).1 (nb u k) = some dy ∧ dy ≤ du + 1 := by
  cases hf : s.1 (nb u j) with
  | some e =>
    rw [bfS_some hf]
    refine ⟨hV, hdu, fun k hk => ?_⟩
    by_cases e2 : k = j
    · subst e2
      have hm : nb u k ∈ s.2 := (hI.2.2.1 _).mpr (by rw [hf]; simp)
      exact ⟨e, hf, hV.2.2.2.1 u du _ e hu hdu hm hf⟩
    · exact hp k (by omega)
  | none =>
    rw [bfS_none hf, hdu]
    obtain ⟨v1, v2, v3, v4, v5⟩ := hV
    have nin : nb u j ∉ s.2 := fun q => (hI.2.2.1 _).mp q hf
    have old : ∀ {x d : Nat}, s.1 x = some d → (fun q => if q = nb u j then some ((some du).getD 0 + 1) else s.1 q) x = some d := by
      intro x d hx
      have : x ≠ nb u j := fun e => by rw [e, hf] at hx; cases hx
      show (if x = nb u j then _ else s.1 x) = some d
      rw [if_neg this]; exact hx
    have back : ∀ {x d : Nat}, (fun q => if q = nb u j then some ((some du).getD 0 + 1) else s.1 q) x = some d → (x = nb u j ∧ d = du + 1) ∨ s.1 x = some d := by
      intro x d hx
      by_cases e : x = nb u j
      · left
        have hx2 : (if x = nb u j then some ((some du).getD 0 + 1) else s.1 x) = some d := hx
        rw [if_pos e] at hx2
        refine ⟨e, ?_⟩
        have : du + 1 = d := by simpa using hx2
        exact this.symm
      · right
        have hx2 : (if x = nb u j then some ((some du).getD 0 + 1) else s.1 x) = some d := hx
        rw [if_neg e] at hx2
        exact hx2
    have il := (List.getElem?_eq_some_iff.mp hu).1
    have gt : ∀ {k y : Nat}, (s.2 ++ [nb u j])[k]? = some y → (k < s.2.length ∧ s.2[k]? = some y) ∨ (k = s.2.length ∧ y = nb u j) := by
      intro k y hk
      rcases Nat.lt_or_ge k s.2.length with q | q
      · rw [List.getElem?_append_left q] at hk
        exact Or.inl ⟨q, hk⟩
      · have hlt := (List.getElem?_eq_some_iff.mp hk).1
        rw [List.length_append] at hlt
        have e : k = s.2.length := by simp at hlt; omega
        rw [e, List.getElem?_append_right (Nat.le_refl _), Nat.sub_self] at hk
        exact Or.inr ⟨e, by simpa using hk.symm⟩
    refine ⟨⟨old v1, fun x d hx => ?_, fun a k x y dx dy hak ha hk hx hy => ?_, fun x dx y dy hx hdx hy hdy => ?_, fun a x dx k ha hx hdx hk => ?_⟩, old hdu, fun k hk => ?_⟩
    · rcases back hx with ⟨e1, e2⟩ | q
      · rw [e1, e2]; exact kn_snoc (v2 u du hdu) hj
      · exact v2 x d q
    · rcases gt ha with ⟨a1, a2⟩ | ⟨a1, a2⟩
      · have hxm := List.mem_of_getElem? a2
        have hx1 : s.1 x = some dx := by
          rcases back hx with ⟨e1, _⟩ | q
          · exact absurd (e1 ▸ hxm) nin
          · exact q
        rcases gt hk with ⟨b1, b2⟩ | ⟨b1, b2⟩
        · have hym := List.mem_of_getElem? b2
          have hy1 : s.1 y = some dy := by
            rcases back hy with ⟨e1, _⟩ | q
            · exact absurd (e1 ▸ hym) nin
            · exact q
          exact v3 a k x y dx dy hak a2 b2 hx1 hy1
        · have : dy = du + 1 := by
            rcases back hy with ⟨_, e2⟩ | q
            · exact e2
            · rw [b2, hf] at q; cases q
          rw [this]
          exact v4 u du x dx hu hdu hxm hx1
      · rcases gt hk with ⟨b1, b2⟩ | ⟨b1, b2⟩
        · omega
        · rw [a2] at hx
          rw [b2] at hy
          have := hx.symm.trans hy
          cases this
          exact Nat.le_refl _
    · have hx0 : x = u := by
        have : (s.2 ++ [nb u j])[i]? = some u := by rw [List.getElem?_append_left il]; exact hu
        exact Option.some.inj (hx.symm.trans this)
      subst hx0
      have hdx1 : dx = du := Option.some.inj (hdx.symm.trans (old hdu))
      rcases back hdy with ⟨_, e2⟩ | q
      · omega
      · have hym : y ∈ s.2 := (hI.2.2.1 y).mpr (by rw [q]; simp)
        rw [hdx1]
        exact v4 x du y dy hu hdu hym q
    · have a2 : s.2[a]? = some x := by
        rcases gt hx with ⟨_, q⟩ | ⟨q, _⟩
        · exact q
        · omega
      have hxm := List.mem_of_getElem? a2
      have hx1 : s.1 x = some dx := by
        rcases back hdx with ⟨e1, _⟩ | q
        · exact absurd (e1 ▸ hxm) nin
        · exact q
      obtain ⟨dy, d1, d2⟩ := v5 a x dx k ha a2 hx1 hk
      exact ⟨dy, old d1, d2⟩
    · by_cases e2 : k = j
      · subst e2
        refine ⟨du + 1, ?_, Nat.le_refl _⟩
        show (if nb u k = nb u k then some ((some du).getD 0 + 1) else _) = _
        rw [if_pos rfl]; rfl
      · obtain ⟨dy, d1, d2⟩ := hp k (by omega)
        exact ⟨dy, old d1, d2⟩
theorem bfJ_BV {N c i u du : Nat} (hnb : ∀ j, j < deg → nb u j < N) : ∀ (m j : Nat) (s : BS), j + m = deg → BInv N s → BV nb deg c i s → s.2[i]? = some u → s.1 u = some du → (∀ k, k < j → ∃ dy, s.1 (nb u k) = some dy ∧ dy ≤ du + 1) → BV nb deg c i (bfJ nb u m j s) ∧ (bfJ nb u m j s).1 u = some du ∧ ∀ k, k < deg → ∃ dy, (bfJ nb u m j s).1 (nb u k) = some dy ∧ dy ≤ du + 1
  | 0, j, s, hj, _, hV, _, hdu, hp => ⟨hV, hdu, fun k hk => hp k (by omega)⟩
  | m + 1, j, s, hj, hI, hV, hu, hdu, hp => by
    rw [bfJ_succ]
    have hum := List.mem_of_getElem? hu
    obtain ⟨a1, a2, a3⟩ := bfS_inv (nb := nb) (j := j) hI hum (hnb j (by omega))
    obtain ⟨b1, b2, b3⟩ := bfS_BV hI hV hu (by omega) (hnb j (by omega)) hdu hp
    exact bfJ_BV hnb m (j + 1) _ (by omega) a1 b1 (a3 i u hu) b2 b3
theorem bfI_BV {N c : Nat} (hnb : ∀ u j, u < N → j < deg → nb u j < N) : ∀ (f i : Nat) (s : BS), i + f = N + 1 → BInv N s → BV nb deg c i s → BV nb deg c (bfI nb deg f i s).2.length (bfI nb deg f i s)
  | 0, i, s, hi, hI, hV => by
    have hl := hI.len
    show BV nb deg c s.2.length s
    obtain ⟨v1, v2, v3, v4, v5⟩ := hV
    exact ⟨v1, v2, v3, fun x dx y dy hx => (by rw [List.getElem?_eq_none (Nat.le_refl _)] at hx; cases hx), fun j x dx k hj => v5 j x dx k (by omega)⟩
  | f + 1, i, s, hi, hI, hV => by
    cases hq : s.2[i]? with
    | none =>
      rw [bfI_none hq]
      have hl : s.2.length ≤ i := by
        rcases Nat.lt_or_ge i s.2.length with c | c
        · rw [List.getElem?_eq_getElem c] at hq; cases hq
        · exact c
      obtain ⟨v1, v2, v3, v4, v5⟩ := hV
      exact ⟨v1, v2, v3, fun x dx y dy hx => (by rw [List.getElem?_eq_none (Nat.le_refl _)] at hx; cases hx), fun j x dx k hj => v5 j x dx k (by omega)⟩
    | some u =>
      rw [bfI_some hq]
      have hum := List.mem_of_getElem? hq
      have hu1 := hI.2.1 u hum
      obtain ⟨du, hdu⟩ : ∃ d, s.1 u = some d := by
        cases hz : s.1 u with
        | none => exact absurd hz ((hI.2.2.1 u).mp hum)
        | some d => exact ⟨d, rfl⟩
      have hI2 := bfJ_inv (nb := nb) deg 0 s hI hum (fun j' hj' => hnb u j' hu1 (by omega))
      obtain ⟨b1, b2, b3⟩ := bfJ_BV (N := N) (c := c) (fun j hj => hnb u j hu1 hj) deg 0 s (by omega) hI hV hq hdu (fun k hk => by omega)
      have hu2 := hI2.2 i u hq
      refine bfI_BV hnb f (i + 1) _ (by omega) hI2.1 ?_
      obtain ⟨v1, v2, v3, v4, v5⟩ := b1
      refine ⟨v1, v2, v3, fun x dx y dy hx hdx hy hdy => ?_, fun j x dx k hj hx hdx hk => ?_⟩
      · have h1 := v4 u du y dy hu2 b2 hy hdy
        have h2 := v3 i (i + 1) u x du dx (by omega) hu2 hx b2 hdx
        omega
      · by_cases e : j = i
        · subst e
          have : x = u := Option.some.inj (hx.symm.trans hu2)
          subst this
          have : dx = du := Option.some.inj (hdx.symm.trans b2)
          subst this
          exact b3 k hk
        · exact v5 j x dx k (by omega) hx hdx hk
theorem mrF_of {N D : Nat} (h1 : fuP nb deg N D) (h2 : ∀ r, r < D → ¬ fuP nb deg N r) : ∀ (m r : Nat), r ≤ D → D ≤ r + m → mrF nb deg N m r = D
  | 0, r, a, b => by show r = D; omega
  | m + 1, r, a, b => by
    show (if pb (fuP nb deg N r) = true then r else mrF nb deg N m (r + 1)) = D
    by_cases e : r = D
    · subst e; rw [if_pos (pb_true.mpr h1)]
    · rw [if_neg (by rw [pb_false.mpr (h2 r (by omega))]; decide)]
      exact mrF_of h1 h2 m (r + 1) (by omega) (by omega)
theorem mx_le (f : Nat → Nat) : ∀ (N c : Nat), c < N → f c ≤ mxF f N
  | 0, c, h => by omega
  | N + 1, c, h => by
    show f c ≤ (if mxF f N < f N then f N else mxF f N)
    by_cases e : c = N
    · subst e; split <;> omega
    · have := mx_le f N c (by omega)
      split <;> omega
theorem mx_at (f : Nat → Nat) : ∀ N, mxF f N = 0 ∨ ∃ c, c < N ∧ f c = mxF f N
  | 0 => Or.inl rfl
  | N + 1 => by
    show (if mxF f N < f N then f N else mxF f N) = 0 ∨ ∃ c, c < N + 1 ∧ f c = (if mxF f N < f N then f N else mxF f N)
    split
    · exact Or.inr ⟨N, by omega, rfl⟩
    · rcases mx_at f N with q | ⟨c, c1, c2⟩
      · exact Or.inl q
      · exact Or.inr ⟨c, by omega, c2⟩
end
section
variable {n : Nat} {S : Int32}
theorem far_of (hF : Fam n S) (hj : ∀ c e, c < (cornS n S).length → e < (cornS n S).length → ∃ r, knB (nrN n S) (n - 1) r c e = true) : faOK n S ∧ farN n S ≤ (cornS n S).length := by
  have hfl := (flU_of hF).1
  have hnb : ∀ u j, u < (cornS n S).length → j < n - 1 → nrN n S u j < (cornS n S).length := fun u j hu hj => (hfl.at hu hj).1
  have inv : ∀ c, c < (cornS n S).length → BInv (cornS n S).length (bsp n S c) := fun c hc => bsp_inv hfl hc
  have bv : ∀ c, c < (cornS n S).length → BV (nrN n S) (n - 1) c (bsp n S c).2.length (bsp n S c) := fun c hc => by
    refine bfI_BV hnb _ 0 (bf0 c) (by omega) (bf0_inv hc) ⟨?_, fun u d hu => ?_, fun j k x y dx dy hjk hx hy hdx hdy => ?_, fun x dx y dy hx hdx hy hdy => ?_, fun j x dx k hj => by omega⟩
    · show (if c = c then some 0 else none) = some 0
      rw [if_pos rfl]
    · have hu2 : (if u = c then some 0 else none) = some d := hu
      split at hu2
      · rename_i e
        cases hu2
        rw [kn_0]; exact e
      · cases hu2
    · have hdx2 : (if x = c then some 0 else none) = some dx := hdx
      split at hdx2
      · cases hdx2; omega
      · cases hdx2
    · have hdy2 : (if y = c then some 0 else none) = some dy := hdy
      split at hdy2
      · cases hdy2; omega
      · cases hdy2
  -- every corner that is known is reached as soon
  have comp : ∀ c, c < (cornS n S).length → ∀ r e, knB (nrN n S) (n - 1) r c e = true → ∃ d, d ≤ r ∧ (bsp n S c).1 e = some d := by
    intro c hc r
    obtain ⟨v1, v2, v3, v4, v5⟩ := bv c hc
    induction r with
    | zero =>
      intro e he
      rw [kn_0] at he
      subst he
      exact ⟨0, Nat.le_refl _, v1⟩
    | succ r ih =>
      intro e he
      rcases kn_last he with q | ⟨e', k, k1, k2, k3⟩
      · obtain ⟨d, d1, d2⟩ := ih e q
        exact ⟨d, by omega, d2⟩
      · obtain ⟨d, d1, d2⟩ := ih e' k2
        have hm : e' ∈ (bsp n S c).2 := ((inv c hc).2.2.1 e').mpr (by rw [d2]; simp)
        obtain ⟨j, hj, ej⟩ := List.mem_iff_getElem.mp hm
        obtain ⟨dy, y1, y2⟩ := v5 j e' d k hj (by rw [List.getElem?_eq_getElem hj, ej]) d2 k1
        rw [k3] at y1
        exact ⟨dy, by omega, y1⟩
  have last : ∀ c, c < (cornS n S).length → ∃ e, e < (cornS n S).length ∧ (bsp n S c).1 e = some (lastD (bsp n S c)) ∧ ∀ y dy, (bsp n S c).1 y = some dy → dy ≤ lastD (bsp n S c) := by
    intro c hc
    have hI := inv c hc
    have hl := hI.2.2.2.2
    have hg : (bsp n S c).2[(bsp n S c).2.length - 1]? = some ((bsp n S c).2.getD ((bsp n S c).2.length - 1) 0) := by rw [List.getD_eq_getElem?_getD, List.getElem?_eq_getElem (by omega)]; rfl
    have hm := List.mem_of_getElem? hg
    obtain ⟨d, hd⟩ : ∃ d, (bsp n S c).1 ((bsp n S c).2.getD ((bsp n S c).2.length - 1) 0) = some d := by
      cases hq : (bsp n S c).1 ((bsp n S c).2.getD ((bsp n S c).2.length - 1) 0) with
      | none => exact absurd hq ((hI.2.2.1 _).mp hm)
      | some d => exact ⟨d, rfl⟩
    have el : lastD (bsp n S c) = d := by unfold lastD; rw [hd]; rfl
    rw [el]
    refine ⟨_, hI.2.1 _ hm, hd, fun y dy hy => ?_⟩
    have hym : y ∈ (bsp n S c).2 := (hI.2.2.1 y).mpr (by rw [hy]; simp)
    obtain ⟨j, hj, ej⟩ := List.mem_iff_getElem.mp hym
    exact (bv c hc).2.2.1 j _ y _ dy d (show j ≤ (bsp n S c).2.length - 1 by omega) (by rw [List.getElem?_eq_getElem hj, ej]) hg hy hd
  have hD : farN n S ≤ (cornS n S).length := by
    unfold farN
    rcases mx_at (fun c => lastD (bsp n S c)) (cornS n S).length with q | ⟨c, c1, c2⟩
    · omega
    · obtain ⟨e, e1, e2, _⟩ := last c c1
      have := (inv c c1).2.2.2.1 e _ e2
      have := (inv c c1).len
      omega
  refine ⟨?_, hD⟩
  unfold faOK
  refine mrF_of (fun c hc e he => ?_) (fun r hr hfu => ?_) _ 0 (by omega) (by omega)
  · obtain ⟨r, hr⟩ := hj c e hc he
    obtain ⟨d, d1, d2⟩ := comp c hc r e hr
    obtain ⟨_, _, _, hm⟩ := last c hc
    have h1 := hm e d d2
    have h2 : lastD (bsp n S c) ≤ farN n S := mx_le (fun c => lastD (bsp n S c)) _ c hc
    exact kn_mono (by omega) ((bv c hc).2.1 e d d2)
  · rcases mx_at (fun c => lastD (bsp n S c)) (cornS n S).length with q | ⟨c, c1, c2⟩
    · unfold farN at hr
      omega
    · obtain ⟨e, e1, e2, _⟩ := last c c1
      obtain ⟨d, d1, d2⟩ := comp c c1 r e (hfu c c1 e e1)
      rw [e2] at d2
      have : lastD (bsp n S c) = d := Option.some.inj d2
      have : lastD (bsp n S c) = farN n S := c2
      omega
end
