/-! THE SPECIFICATION, 6: steps; THE REFERENCE, 27: spreads, farthest, steps -/
abbrev BS : Type := (Nat → Option Nat) × List Nat
def bfS (nb : Nat → Nat → Nat) (u j : Nat) (s : BS) : BS := match s.1 (nb u j) with
  | none => (fun q => if q = nb u j then some ((s.1 u).getD 0 + 1) else s.1 q, s.2 ++ [nb u j])
  | some _ => s
def bfJ (nb : Nat → Nat → Nat) (u : Nat) : Nat → Nat → BS → BS
  | 0, _, s => s
  | m + 1, j, s => bfJ nb u m (j + 1) (bfS nb u j s)
def bfI (nb : Nat → Nat → Nat) (deg : Nat) : Nat → Nat → BS → BS
  | 0, _, s => s
  | f + 1, i, s => match s.2[i]? with
    | none => s
    | some u => bfI nb deg f (i + 1) (bfJ nb u deg 0 s)
def bf0 (c : Nat) : BS := (fun q => if q = c then some 0 else none, [c])
theorem bfJ_succ (nb : Nat → Nat → Nat) (u m j : Nat) (s : BS) : bfJ nb u (m + 1) j s = bfJ nb u m (j + 1) (bfS nb u j s) := rfl
theorem bfI_some {nb : Nat → Nat → Nat} {deg f i u : Nat} {s : BS} (h : s.2[i]? = some u) : bfI nb deg (f + 1) i s = bfI nb deg f (i + 1) (bfJ nb u deg 0 s) := by
  show (match s.2[i]? with | none => s | some u => bfI nb deg f (i + 1) (bfJ nb u deg 0 s)) = _
  rw [h]
theorem bfI_none {nb : Nat → Nat → Nat} {deg f i : Nat} {s : BS} (h : s.2[i]? = none) : bfI nb deg (f + 1) i s = s := by
  show (match s.2[i]? with | none => s | some u => bfI nb deg f (i + 1) (bfJ nb u deg 0 s)) = _
  rw [h]
theorem bfS_none {nb : Nat → Nat → Nat} {u j : Nat} {s : BS} (h : s.1 (nb u j) = none) : bfS nb u j s = (fun q => if q = nb u j then some ((s.1 u).getD 0 + 1) else s.1 q, s.2 ++ [nb u j]) := by unfold bfS; rw [h]
theorem bfS_some {nb : Nat → Nat → Nat} {u j d : Nat} {s : BS} (h : s.1 (nb u j) = some d) : bfS nb u j s = s := by unfold bfS; rw [h]
theorem nodup_lt : ∀ (N : Nat) (l : List Nat), l.Nodup → (∀ u ∈ l, u < N) → l.length ≤ N
  | 0, l, _, h => by
    cases l with
    | nil => simp
    | cons a t => exact absurd (h a (List.mem_cons_self ..)) (by omega)
  | N + 1, l, hn, h => by
    by_cases hm : N ∈ l
    · have h1 := nodup_lt N (l.erase N) (hn.erase N) (fun u hu => by
        have := (hn.mem_erase_iff).mp hu
        have := h u this.2
        omega)
      rw [List.length_erase_of_mem hm] at h1
      omega
    · have := nodup_lt N l hn (fun u hu => by
        have := h u hu
        have : u ≠ N := fun e => hm (e ▸ hu)
        omega)
      omega
def BInv (N : Nat) (s : BS) : Prop := s.2.Nodup ∧ (∀ u ∈ s.2, u < N) ∧ (∀ u, u ∈ s.2 ↔ s.1 u ≠ none) ∧ (∀ u d, s.1 u = some d → d < s.2.length) ∧ 1 ≤ s.2.length
theorem BInv.len {N : Nat} {s : BS} (h : BInv N s) : s.2.length ≤ N := nodup_lt N s.2 h.1 h.2.1
theorem BInv.room {N o : Nat} {s : BS} (h : BInv N s) (ho : o < N) (hf : s.1 o = none) : s.2.length < N := by
  have hn : o ∉ s.2 := fun q => (h.2.2.1 o).mp q hf
  have := nodup_lt N (o :: s.2) (List.nodup_cons.mpr ⟨hn, h.1⟩) (fun u hu => by
    rcases List.mem_cons.mp hu with q | q
    · omega
    · exact h.2.1 u q)
  rw [List.length_cons] at this
  omega
theorem BInv.add {N o d : Nat} {s : BS} (h : BInv N s) (ho : o < N) (hf : s.1 o = none) (hd : d < s.2.length) : BInv N (fun q => if q = o then some (d + 1) else s.1 q, s.2 ++ [o]) := by
  have hn : o ∉ s.2 := fun q => (h.2.2.1 o).mp q hf
  refine ⟨List.nodup_append.mpr ⟨h.1, List.nodup_cons.mpr ⟨by simp, List.nodup_nil⟩, fun a ha b hb => ?_⟩, fun u hu => ?_, fun u => ?_, fun u e he => ?_, ?_⟩
  · have : b = o := by simpa using hb
    subst this
    exact fun e => hn (e ▸ ha)
  · rcases List.mem_append.mp hu with q | q
    · exact h.2.1 u q
    · have : u = o := by simpa using q
      omega
  · dsimp only
    by_cases e : u = o
    · subst e; simp
    · rw [if_neg e, List.mem_append, h.2.2.1 u]
      simp [e]
  · dsimp only at he
    rw [List.length_append]
    by_cases e2 : u = o
    · rw [if_pos e2] at he
      cases he
      simp
      omega
    · rw [if_neg e2] at he
      have := h.2.2.2.1 u e he
      simp
      omega
  · rw [List.length_append]; simp
def fI (o : Option Nat) : Int32 := match o with
  | none => -1
  | some d => nI d
def BRel (N : Nat) (s : BS) (F Qf : Nat → Int32) : Prop := (∀ o, o < N → F o = fI (s.1 o)) ∧ ∀ i u, s.2[i]? = some u → Qf i = nI u
theorem fI_ne {d : Nat} (h : d < 2 ^ 31) : ¬ nI d = -1 := by
  intro q
  have e1 : (nI d).toInt = (d : Int) := nI_toInt h
  rw [q] at e1
  have e5 : (-1 : Int32).toInt = -1 := by decide
  omega
/-- the steps from a corner -/
noncomputable def bsp (n : Nat) (S : Int32) (c : Nat) : BS := bfI (nrN n S) (n - 1) ((cornS n S).length + 1) 0 (bf0 c)
def lastD (s : BS) : Nat := (s.1 (s.2.getD (s.2.length - 1) 0)).getD 0
theorem bf0_inv {N c : Nat} (hc : c < N) : BInv N (bf0 c) := by
  refine ⟨List.nodup_cons.mpr ⟨by simp, List.nodup_nil⟩, fun u hu => ?_, fun u => ?_, fun u d hd => ?_, Nat.le_refl _⟩
  · have : u = c := by simpa [bf0] using hu
    omega
  · unfold bf0
    by_cases e : u = c <;> simp [e]
  · unfold bf0 at hd ⊢
    dsimp only at hd
    split at hd
    · cases hd; simp
    · cases hd
theorem bfS_inv {N : Nat} {nb : Nat → Nat → Nat} {u j : Nat} {s : BS} (h : BInv N s) (hu : u ∈ s.2) (hnb : nb u j < N) : BInv N (bfS nb u j s) ∧ u ∈ (bfS nb u j s).2 ∧ ∀ (i v : Nat), s.2[i]? = some v → (bfS nb u j s).2[i]? = some v := by
  cases hf : s.1 (nb u j) with
  | none =>
    rw [bfS_none hf]
    obtain ⟨d, hd⟩ : ∃ d, s.1 u = some d := by
      cases hq : s.1 u with
      | none => exact absurd hq ((h.2.2.1 u).mp hu)
      | some d => exact ⟨d, rfl⟩
    rw [hd]
    refine ⟨h.add hnb hf (h.2.2.2.1 u d hd), List.mem_append_left _ hu, fun i v hv => ?_⟩
    dsimp only
    rw [List.getElem?_append_left (List.getElem?_eq_some_iff.mp hv).1]
    exact hv
  | some d =>
    rw [bfS_some hf]
    exact ⟨h, hu, fun i v hv => hv⟩
theorem bfJ_inv {N : Nat} {nb : Nat → Nat → Nat} {u : Nat} : ∀ (m j : Nat) (s : BS), BInv N s → u ∈ s.2 → (∀ j', j' < j + m → nb u j' < N) → BInv N (bfJ nb u m j s) ∧ ∀ (i v : Nat), s.2[i]? = some v → (bfJ nb u m j s).2[i]? = some v
  | 0, _, s, h, _, _ => ⟨h, fun i v hv => hv⟩
  | m + 1, j, s, h, hu, hnb => by
    rw [bfJ_succ]
    obtain ⟨a1, a2, a3⟩ := bfS_inv (nb := nb) (j := j) h hu (hnb j (by omega))
    obtain ⟨b1, b2⟩ := bfJ_inv m (j + 1) _ a1 a2 (fun j' hj' => hnb j' (by omega))
    exact ⟨b1, fun i v hv => b2 i v (a3 i v hv)⟩
theorem bfI_inv {N deg : Nat} {nb : Nat → Nat → Nat} (hnb : ∀ u j, u < N → j < deg → nb u j < N) : ∀ (f i : Nat) (s : BS), BInv N s → BInv N (bfI nb deg f i s)
  | 0, _, s, h => h
  | f + 1, i, s, h => by
    cases hq : s.2[i]? with
    | none => rw [bfI_none hq]; exact h
    | some u =>
      rw [bfI_some hq]
      have hu := List.mem_of_getElem? hq
      exact bfI_inv hnb f (i + 1) _ (bfJ_inv deg 0 s h hu (fun j' hj' => hnb u j' (h.2.1 u hu) (by omega))).1
abbrev spH (h : AH) (F Qf : Nat → Int32) : AH := upH (upH h 88 (ints 120 F)) 89 (ints 120 Qf)
section
variable {h : AH} {k fed pl le fi : Int32} {G : Nat → Int32} {n : Nat} {S : Int32} {z : ZT}
theorem spH_F (F F' Qf : Nat → Int32) : upH (spH h F Qf) 88 (ints 120 F') = spH h F' Qf := by
  refine heap_ext rfl (fun q => ?_)
  simp only [upH]
  repeat' split
  all_goals first | rfl | (simp_all)
theorem spH_Q (F Qf Qf' : Nat → Int32) : upH (spH h F Qf) 89 (ints 120 Qf') = spH h F Qf' := upH_upH _ _ _ _
theorem mCel.sp (hm : mCel h k fed pl le fi G z) (F Qf : Nat → Int32) : mCel (spH h F Qf) k fed pl le fi G z := hm
theorem lp_spK (d : Nat) (Q : Option Value → AH → Prop) (hm : mCel h k fed pl le fi G z) (hn : n ≤ 5) (hn2 : 2 ≤ n) (h0 : G 0 = nI n) (hz : caZ n S z) (hb : c120 n S) (hfl : flOK n S) {i u : Nat} (v1 : Int32) : ∀ (m j : Nat) (s : BS) (F Qf : Nat → Int32) (w : Option Value), j + m = n - 1 → BInv (cornS n S).length s → BRel (cornS n S).length s F Qf → s.2[i]? = some u → (∀ (F' Qf' : Nat → Int32) (w' : Option Value), BRel (cornS n S).length (bfJ (nrN n S) u m j s) F' Qf' → R d 205 79 [some (.ref 76), some (.int v1), some (.int (nI (bfJ (nrN n S) u m j s).2.length)), some (.int (nI i)), some (.int (nI (n - 1))), w'] [] (spH h F' Qf') Q) → R d 205 32 [some (.ref 76), some (.int v1), some (.int (nI s.2.length)), some (.int (nI i)), some (.int (nI j)), w] [] (spH h F Qf) Q := by
  have kC9 := co_MO_spreads
  have hl : (cornS n S).length ≤ 120 := by rw [cornS_len]; exact hb
  intro m
  induction m with
  | zero =>
    intro j s F Qf w hj hI hR hu kk2
    have ho : (spH h F Qf).2 76 = mob k fed pl le fi (nI z.2.2.2.2.2.2) := hm.1
    have hg : (spH h F Qf).2 77 = ints 106 G := hm.2.1
    repeat (refine R_s kC9 rfl rfl ?_)
    refine R_get kC9 rfl (ho) rfl ?_
    repeat (refine R_s kC9 rfl rfl ?_)
    refine R_ild kC9 rfl (hg) (rfl) (by decide) (by decide) ?_
    rw [h0]
    repeat (refine R_s kC9 rfl rfl ?_)
    refine R_ge kC9 rfl rfl (pk_sub (by omega)) (by omega) (by omega) (fun q => ?_) (fun q => by omega)
    have : j = n - 1 := by omega
    subst this
    exact kk2 F Qf w hR
  | succ m ih =>
    intro j s F Qf w hj hI hR hu kk2
    have ho : (spH h F Qf).2 76 = mob k fed pl le fi (nI z.2.2.2.2.2.2) := hm.1
    have hg : (spH h F Qf).2 77 = ints 106 G := hm.2.1
    have hnr : (spH h F Qf).2 87 = ints 480 z.2.2.2.2.2.1 := hm.2.2.2.2.2.2.2
    have hFc : (spH h F Qf).2 88 = ints 120 F := rfl
    have hQc : (spH h F Qf).2 89 = ints 120 Qf := rfl
    have hum := List.mem_of_getElem? hu
    have hu1 := hI.2.1 u hum
    have hi := (List.getElem?_eq_some_iff.mp hu).1
    have hlen := hI.len
    obtain ⟨f1, f2⟩ := hfl.at hu1 (show j < n - 1 by omega)
    rw [bfJ_succ] at kk2
    have goon : ∀ (s' : BS) (F' Qf' : Nat → Int32), s' = bfS (nrN n S) u j s → BInv (cornS n S).length s' → BRel (cornS n S).length s' F' Qf' → s'.2[i]? = some u → R d 205 77 [some (.ref 76), some (.int v1), some (.int (nI s'.2.length)), some (.int (nI i)), some (.int (nI j)), some (.int (nI (nrN n S u j)))] [] (spH h F' Qf') Q := by
      intro s' F' Qf' e a1 a2 a3
      subst e
      repeat (refine R_s kC9 rfl rfl ?_)
      refine R_g kC9 rfl ?_
      refine (show R d 205 32 [some (.ref 76), some (.int v1), some (.int (nI (bfS (nrN n S) u j s).2.length)), some (.int (nI i)), some (.int (nI j + nI 1)), some (.int (nI (nrN n S u j)))] [] (spH h F' Qf') Q from ?_)
      rw [nI_add]
      exact ih (j + 1) _ F' Qf' _ (by omega) a1 a2 a3 kk2
    repeat (refine R_s kC9 rfl rfl ?_)
    refine R_get kC9 rfl (ho) rfl ?_
    repeat (refine R_s kC9 rfl rfl ?_)
    refine R_ild kC9 rfl (hg) (rfl) (by decide) (by decide) ?_
    rw [h0]
    repeat (refine R_s kC9 rfl rfl ?_)
    refine R_ge kC9 rfl rfl (pk_sub (by omega)) (by omega) (by omega) (fun q => by omega) (fun q => ?_)
    repeat (refine R_s kC9 rfl rfl ?_)
    refine R_get kC9 rfl (ho) rfl ?_
    repeat (refine R_s kC9 rfl rfl ?_)
    refine R_get kC9 rfl (ho) rfl ?_
    repeat (refine R_s kC9 rfl rfl ?_)
    refine R_ild kC9 rfl (hQc) (rfl) (by omega) (by decide) ?_
    rw [hR.2 i u hu]
    repeat (refine R_s kC9 rfl rfl ?_)
    refine R_ild kC9 rfl hnr (k := 4 * u + j) (show nI 4 * nI u + nI j = _ by rw [pk_mul, nI_add]) (by omega) (by decide) ?_
    rw [hz.2.2.2.2.2 u j hu1 (by omega), f2]
    repeat (refine R_s kC9 rfl rfl ?_)
    refine R_get kC9 rfl (ho) rfl ?_
    repeat (refine R_s kC9 rfl rfl ?_)
    refine R_ild kC9 rfl (hFc) (rfl) (by omega) (by decide) ?_
    rw [hR.1 _ f1]
    obtain ⟨b1, b2, b3⟩ := bfS_inv (nb := nrN n S) (j := j) hI hum f1
    cases hf : s.1 (nrN n S u j) with
    | none =>
      obtain ⟨e, he⟩ : ∃ e, s.1 u = some e := by
        cases hq : s.1 u with
        | none => exact absurd hq ((hI.2.2.1 u).mp hum)
        | some e => exact ⟨e, rfl⟩
      have room := hI.room f1 hf
      repeat (refine R_s kC9 rfl rfl ?_)
      refine Rr_ne kC9 rfl (fun q => absurd rfl q) (fun _ => ?_)
      repeat (refine R_s kC9 rfl rfl ?_)
      refine R_get kC9 rfl (ho) rfl ?_
      repeat (refine R_s kC9 rfl rfl ?_)
      refine R_get kC9 rfl (ho) rfl ?_
      repeat (refine R_s kC9 rfl rfl ?_)
      refine R_get kC9 rfl (ho) rfl ?_
      repeat (refine R_s kC9 rfl rfl ?_)
      refine R_ild kC9 rfl (hQc) (rfl) (by omega) (by decide) ?_
      rw [hR.2 i u hu]
      refine R_ild kC9 rfl (hFc) (rfl) (by omega) (by decide) ?_
      rw [hR.1 u hu1, he]
      iterate 2 (refine R_s kC9 rfl rfl ?_)
      refine (show R d 205 70 _ [.int (nI e + nI 1), .int (nI (nrN n S u j)), .ref 88] (spH h F Qf) Q from ?_)
      rw [nI_add]
      refine R_ist kC9 rfl (hFc) (by decide) (rfl) (by omega) (by decide) ?_
      rw [spH_F]
      repeat (refine R_s kC9 rfl rfl ?_)
      refine R_get kC9 rfl (show (spH h (upd F (nrN n S u j) (nI (e + 1))) Qf).2 76 = mob k fed pl le fi (nI z.2.2.2.2.2.2) from hm.1) rfl ?_
      repeat (refine R_s kC9 rfl rfl ?_)
      refine R_ist kC9 rfl (h := spH h (upd F (nrN n S u j) (nI (e + 1))) Qf) rfl (by decide) (k := s.2.length) rfl (by omega) (by decide) ?_
      rw [spH_Q]
      iterate 1 (refine R_s kC9 rfl rfl ?_)
      refine (show R d 205 77 [some (.ref 76), some (.int v1), some (.int (nI s.2.length + nI 1)), some (.int (nI i)), some (.int (nI j)), some (.int (nI (nrN n S u j)))] [] (spH h (upd F (nrN n S u j) (nI (e + 1))) (upd Qf s.2.length (nI (nrN n S u j)))) Q from ?_)
      rw [nI_add]
      have es := bfS_none (nb := nrN n S) (u := u) (j := j) hf
      have elen : (bfS (nrN n S) u j s).2.length = s.2.length + 1 := by rw [es, List.length_append]; rfl
      have := goon (bfS (nrN n S) u j s) (upd F (nrN n S u j) (nI (e + 1))) (upd Qf s.2.length (nI (nrN n S u j))) rfl b1 ?_ (b3 i u hu)
      · rw [elen] at this
        exact this
      · rw [es, he]
        refine ⟨fun o hoo => ?_, fun i' v hv => ?_⟩
        · dsimp only
          by_cases e2 : o = nrN n S u j
          · subst e2; rw [pk_us, if_pos rfl]; rfl
          · rw [pk_un e2, if_neg e2]; exact hR.1 o hoo
        · dsimp only at hv
          rcases Nat.lt_or_ge i' s.2.length with c1 | c1
          · rw [List.getElem?_append_left c1] at hv
            rw [pk_un (by omega)]
            exact hR.2 i' v hv
          · have hlt := (List.getElem?_eq_some_iff.mp hv).1
            rw [List.length_append] at hlt
            have : i' = s.2.length := by simp at hlt; omega
            subst this
            rw [List.getElem?_append_right (Nat.le_refl _), Nat.sub_self] at hv
            have hz : nrN n S u j = v := by simpa using hv
            subst hz
            rw [pk_us]
    | some e =>
      have he := hI.2.2.2.1 _ e hf
      repeat (refine R_s kC9 rfl rfl ?_)
      refine Rr_ne kC9 rfl (fun _ => ?_) (fun q => absurd q (fI_ne (by omega)))
      have es := bfS_some (nb := nrN n S) (u := u) (j := j) hf
      have := goon s F Qf es.symm hI hR hu
      exact this
theorem lp_spI (d : Nat) (hm : mCel h k fed pl le fi G z) (hn : n ≤ 5) (hn2 : 2 ≤ n) (h0 : G 0 = nI n) (hz : caZ n S z) (hb : c120 n S) (hfl : flOK n S) (v1 : Int32) : ∀ (m i : Nat) (s : BS) (F Qf : Nat → Int32) (w4 w5 : Option Value), i + m = (cornS n S).length + 1 → BInv (cornS n S).length s → BRel (cornS n S).length s F Qf → R d 205 27 [some (.ref 76), some (.int v1), some (.int (nI s.2.length)), some (.int (nI i)), w4, w5] [] (spH h F Qf) (fun r2 h2 => ∃ y : (Nat → Int32) × (Nat → Int32), BRel (cornS n S).length (bfI (nrN n S) (n - 1) m i s) y.1 y.2 ∧ r2 = some (.int (nI (lastD (bfI (nrN n S) (n - 1) m i s)))) ∧ h2 = spH h y.1 y.2) := by
  have kC9 := co_MO_spreads
  have hl : (cornS n S).length ≤ 120 := by rw [cornS_len]; exact hb
  have out : ∀ (i : Nat) (s : BS) (F Qf : Nat → Int32) (w4 w5 : Option Value), BInv (cornS n S).length s → BRel (cornS n S).length s F Qf → R d 205 81 [some (.ref 76), some (.int v1), some (.int (nI s.2.length)), some (.int (nI i)), w4, w5] [] (spH h F Qf) (fun r2 h2 => ∃ y : (Nat → Int32) × (Nat → Int32), BRel (cornS n S).length s y.1 y.2 ∧ r2 = some (.int (nI (lastD s))) ∧ h2 = spH h y.1 y.2) := by
    intro i s F Qf w4 w5 hI hR
    have ho : (spH h F Qf).2 76 = mob k fed pl le fi (nI z.2.2.2.2.2.2) := hm.1
    have hFc : (spH h F Qf).2 88 = ints 120 F := rfl
    have hQc : (spH h F Qf).2 89 = ints 120 Qf := rfl
    have hlen := hI.len
    have h1 := hI.2.2.2.2
    have hu : s.2[s.2.length - 1]? = some (s.2.getD (s.2.length - 1) 0) := by rw [List.getD_eq_getElem?_getD, List.getElem?_eq_getElem (by omega)]; rfl
    have hum := List.mem_of_getElem? hu
    have hu1 := hI.2.1 _ hum
    obtain ⟨e, he⟩ : ∃ e, s.1 (s.2.getD (s.2.length - 1) 0) = some e := by
      cases hq : s.1 (s.2.getD (s.2.length - 1) 0) with
      | none => exact absurd hq ((hI.2.2.1 _).mp hum)
      | some e => exact ⟨e, rfl⟩
    repeat (refine R_s kC9 rfl rfl ?_)
    refine R_get kC9 rfl (ho) rfl ?_
    repeat (refine R_s kC9 rfl rfl ?_)
    refine R_get kC9 rfl (ho) rfl ?_
    repeat (refine R_s kC9 rfl rfl ?_)
    refine R_ild kC9 rfl hQc (pk_sub (show 1 ≤ s.2.length by omega)) (by omega) (by decide) ?_
    rw [hR.2 _ _ hu]
    refine R_ild kC9 rfl (hFc) (rfl) (by omega) (by decide) ?_
    rw [hR.1 _ hu1]
    refine R_ri kC9 rfl ⟨(F, Qf), hR, ?_, rfl⟩
    unfold lastD
    rw [he]
    rfl
  intro m
  induction m with
  | zero =>
    intro i s F Qf w4 w5 hi hI hR
    have hlen := hI.len
    repeat (refine R_s kC9 rfl rfl ?_)
    refine R_ge kC9 rfl (rfl) (rfl) (by omega) (by omega) (fun hc => ?_) (fun hc => ?_)
    · exact out i s F Qf w4 w5 hI hR
    · omega
  | succ m ih =>
    intro i s F Qf w4 w5 hi hI hR
    have hlen := hI.len
    repeat (refine R_s kC9 rfl rfl ?_)
    refine R_ge kC9 rfl (rfl) (rfl) (by omega) (by omega) (fun hc => ?_) (fun hc => ?_)
    · rw [bfI_none (List.getElem?_eq_none (by omega))]
      exact out i s F Qf w4 w5 hI hR
    · obtain ⟨u, hu⟩ : ∃ u, s.2[i]? = some u := ⟨s.2[i], List.getElem?_eq_getElem hc⟩
      rw [bfI_some hu]
      have hum := List.mem_of_getElem? hu
      have hu1 := hI.2.1 u hum
      have hI2 := bfJ_inv (nb := nrN n S) (n - 1) 0 s hI hum (fun j' hj' => (hfl.at hu1 (by omega)).1)
      iterate 2 (refine R_s kC9 rfl rfl ?_)
      refine lp_spK d _ hm hn hn2 h0 hz hb hfl v1 (n - 1) 0 s F Qf w5 (by omega) hI hR hu (fun F' Qf' w' hR' => ?_)
      repeat (refine R_s kC9 rfl rfl ?_)
      refine R_g kC9 rfl ?_
      refine (show R d 205 27 [some (.ref 76), some (.int v1), some (.int (nI (bfJ (nrN n S) u (n - 1) 0 s).2.length)), some (.int (nI i + nI 1)), some (.int (nI (n - 1))), w'] [] (spH h F' Qf') _ from ?_)
      rw [nI_add]
      exact ih (i + 1) _ F' Qf' _ _ (by omega) hI2.1 hR'
theorem lp_sp0 (d : Nat) (Q : Option Value → AH → Prop) (hm : mCel h k fed pl le fi G z) (hz : caZ n S z) (hb : c120 n S) (v1 : Int32) {Qf : Nat → Int32} (kk : ∀ F, (∀ o, o < (cornS n S).length → F o = -1) → R d 205 13 [some (.ref 76), some (.int v1), some (.int (nI (cornS n S).length)), none, none, none] [] (spH h F Qf) Q) : ∀ (m i : Nat) (F : Nat → Int32), i + m = (cornS n S).length → (∀ o, o < i → F o = -1) → R d 205 2 [some (.ref 76), some (.int v1), some (.int (nI i)), none, none, none] [] (spH h F Qf) Q := by
  have kC9 := co_MO_spreads
  have hl : (cornS n S).length ≤ 120 := by rw [cornS_len]; exact hb
  intro m
  induction m with
  | zero =>
    intro i F hi h1
    have ho : (spH h F Qf).2 76 = mob k fed pl le fi (nI (cornS n S).length) := by rw [← hz.2.2.1]; exact hm.1
    repeat (refine R_s kC9 rfl rfl ?_)
    refine R_get kC9 rfl (ho) rfl ?_
    refine R_ge kC9 rfl (rfl) (rfl) (by omega) (by omega) (fun hc => ?_) (fun hc => ?_)
    · have : i = (cornS n S).length := by omega
      subst this
      exact kk F h1
    · omega
  | succ m ih =>
    intro i F hi h1
    have ho : (spH h F Qf).2 76 = mob k fed pl le fi (nI (cornS n S).length) := by rw [← hz.2.2.1]; exact hm.1
    repeat (refine R_s kC9 rfl rfl ?_)
    refine R_get kC9 rfl (ho) rfl ?_
    refine R_ge kC9 rfl (rfl) (rfl) (by omega) (by omega) (fun hc => ?_) (fun hc => ?_)
    · omega
    · repeat (refine R_s kC9 rfl rfl ?_)
      refine R_get kC9 rfl (ho) rfl ?_
      repeat (refine R_s kC9 rfl rfl ?_)
      refine R_ist kC9 rfl (h := spH h F Qf) rfl (by decide) (k := i) rfl (by omega) (by decide) ?_
      rw [spH_F]
      repeat (refine R_s kC9 rfl rfl ?_)
      refine R_g kC9 rfl ?_
      refine (show R d 205 2 [some (.ref 76), some (.int v1), some (.int (nI i + nI 1)), none, none, none] [] (spH h (upd F i (-1)) Qf) Q from ?_)
      rw [nI_add]
      refine ih (i + 1) _ (by omega) (fun o hoo => ?_)
      by_cases e : o = i
      · subst e; rw [pk_us]
      · rw [pk_un e]; exact h1 o (by omega)
theorem sp_MO_spreads (d : Nat) (hm : mCel h k fed pl le fi G z) (hn : n ≤ 5) (hn2 : 2 ≤ n) (h0 : G 0 = nI n) (hz : caZ n S z) (hb : c120 n S) (hfl : flOK n S) {F Qf : Nat → Int32} (hF : h.2 88 = ints 120 F) (hQ : h.2 89 = ints 120 Qf) {c : Nat} (hc : c < (cornS n S).length) : ∃ y : (Nat → Int32) × (Nat → Int32), BRel (cornS n S).length (bsp n S c) y.1 y.2 ∧ Cl d 205 [.ref 76, .int (nI c)] h (some (.int (nI (lastD (bsp n S c))))) (spH h y.1 y.2) := by
  have kC9 := co_MO_spreads
  have hl : (cornS n S).length ≤ 120 := by rw [cornS_len]; exact hb
  refine Cl_ex (f := fun _ => some (.int (nI (lastD (bsp n S c))))) (g := fun (y : (Nat → Int32) × (Nat → Int32)) => spH h y.1 y.2) kC9 rfl rfl ?_
  iterate 2 (refine R_s kC9 rfl rfl ?_)
  have hs : spH h F Qf = h := by
    unfold spH
    rw [upH_self hF, upH_self hQ]
  refine (show R d 205 2 [some (.ref 76), some (.int (nI c)), some (.int (nI 0)), none, none, none] [] h _ from ?_)
  have key := lp_sp0 (h := h) (Qf := Qf) d (fun r2 h2 => ∃ y : (Nat → Int32) × (Nat → Int32), BRel (cornS n S).length (bsp n S c) y.1 y.2 ∧ r2 = some (.int (nI (lastD (bsp n S c)))) ∧ h2 = spH h y.1 y.2) hm hz hb (nI c) (fun F1 h1 => ?_) (cornS n S).length 0 F (by omega) (fun o hoo => by omega)
  · rw [hs] at key
    exact key
  · have ho : (spH h F1 Qf).2 76 = mob k fed pl le fi (nI z.2.2.2.2.2.2) := hm.1
    repeat (refine R_s kC9 rfl rfl ?_)
    refine R_get kC9 rfl (ho) rfl ?_
    repeat (refine R_s kC9 rfl rfl ?_)
    refine R_ist kC9 rfl (h := spH h F1 Qf) rfl (by decide) (k := c) rfl (by omega) (by decide) ?_
    rw [spH_F]
    repeat (refine R_s kC9 rfl rfl ?_)
    refine R_get kC9 rfl (show (spH h (upd F1 c (nI 0)) Qf).2 76 = mob k fed pl le fi (nI z.2.2.2.2.2.2) from hm.1) rfl ?_
    repeat (refine R_s kC9 rfl rfl ?_)
    refine R_ist kC9 rfl (h := spH h (upd F1 c (nI 0)) Qf) rfl (by decide) (k := 0) rfl (by omega) (by decide) ?_
    rw [spH_Q]
    iterate 4 (refine R_s kC9 rfl rfl ?_)
    refine lp_spI d hm hn hn2 h0 hz hb hfl (nI c) ((cornS n S).length + 1) 0 (bf0 c) _ _ none none (by omega) (bf0_inv hc) ⟨fun o hoo => ?_, fun i u hu => ?_⟩
    · unfold bf0
      dsimp only
      by_cases e : o = c
      · subst e; rw [pk_us, if_pos rfl]; rfl
      · rw [pk_un e, if_neg e]; exact h1 o hoo
    · unfold bf0 at hu
      dsimp only at hu
      have hi := (List.getElem?_eq_some_iff.mp hu).1
      have : i = 0 := by simp at hi; omega
      subst this
      have : c = u := by simpa using hu
      subst this
      rw [pk_us]
/-- all but what the corners' methods write is as it was -/
def frm2 (h h' : AH) : Prop := h'.1 = h.1 ∧ ∀ q, ¬ (q = 76 ∨ q = 80 ∨ (83 ≤ q ∧ q ≤ 91)) → h'.2 q = h.2 q
theorem frm2.trans {h h' h'' : AH} (a : frm2 h h') (b : frm2 h' h'') : frm2 h h'' := ⟨b.1.trans a.1, fun q hq => (b.2 q hq).trans (a.2 q hq)⟩
theorem frm.to2 {h h' : AH} (a : frm h h') : frm2 h h' := ⟨a.1, fun q hq => a.2 q (by omega)⟩
theorem frm2.rfl {h : AH} : frm2 h h := ⟨Eq.refl _, fun _ _ => Eq.refl _⟩
theorem spH_frm (F Qf : Nat → Int32) : frm2 h (spH h F Qf) := ⟨Eq.refl _, fun q hq => by
  simp only [upH]
  rw [if_neg (by omega), if_neg (by omega)]⟩
/-- far, queue, order, count are rows -/
def rows4 (h : AH) : Prop := (∃ F, h.2 88 = ints 120 F) ∧ (∃ F, h.2 89 = ints 120 F) ∧ (∃ F, h.2 90 = ints 5 F) ∧ ∃ F, h.2 91 = ints 5 F
theorem rows4.frm {h h' : AH} (a : rows4 h) (b : frm h h') : rows4 h' := by
  obtain ⟨⟨F1, a1⟩, ⟨F2, a2⟩, ⟨F3, a3⟩, ⟨F4, a4⟩⟩ := a
  exact ⟨⟨F1, (b.2 88 (by omega)).trans a1⟩, ⟨F2, (b.2 89 (by omega)).trans a2⟩, ⟨F3, (b.2 90 (by omega)).trans a3⟩, ⟨F4, (b.2 91 (by omega)).trans a4⟩⟩
theorem rows4.sp {h : AH} (a : rows4 h) (F Qf : Nat → Int32) : rows4 (spH h F Qf) := ⟨⟨F, Eq.refl _⟩, ⟨Qf, Eq.refl _⟩, a.2.2.1, a.2.2.2⟩
end
