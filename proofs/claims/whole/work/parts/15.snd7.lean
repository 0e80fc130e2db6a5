/-! 7: the ends of a method, the calls, and all together -/
theorem HRel.moved {B hv tn sb : Nat} {cA : FieldType → ClassId} {D : va_G} {u U : State} {h : AH} {H : Heap} (hvm : u.vm.Alike U.vm) (hR : HRel B hv tn sb cA D u h H) : HRel B hv tn sb cA D U h H := by
  obtain ⟨a1, a2, a3, a4, a5, a6⟩ := hR
  exact ⟨a1, a2, a3, a4, fun r hr => by obtain ⟨n, f, e1, e2, e3⟩ := a5 r hr; exact ⟨n, f, e1, xrl.moved hvm e2, e3⟩, a6⟩
theorem nst_warm {s U : State} (hW : s.WarmedH U.vm) (h : ∀ w ∈ nstW, va_Nw w s) : ∀ w ∈ nstW, va_Nw w U := by
  intro w hw
  have h1 := h w hw
  unfold nstW at hw
  simp only [List.mem_cons, List.not_mem_nil, or_false] at hw
  rcases hw with rfl | rfl | rfl | rfl | rfl | rfl | rfl | rfl | rfl | rfl | rfl | rfl
  · exact va_Nw.warmM hW h1
  · exact va_Nw.warmM hW h1
  · exact va_Nw.warmM hW h1
  · exact va_Nw.warmM hW h1
  · exact va_Nw.warmM hW h1
  · exact va_Nw.warmM hW h1
  · exact va_Nw.warmM hW h1
  · exact va_Nw.warmM hW h1
  · exact va_Nw.warmF hW h1
  · exact va_Nw.warmF hW h1
  · exact va_Nw.warmF hW h1
  · exact va_Nw.warmF hW h1
theorem nst_same {s U : State} (hvm : s.vm = U.vm) (h : ∀ w ∈ nstW, va_Nw w s) : ∀ w ∈ nstW, va_Nw w U := by
  intro w hw
  have h1 := h w hw
  unfold nstW at hw
  simp only [List.mem_cons, List.not_mem_nil, or_false] at hw
  rcases hw with rfl | rfl | rfl | rfl | rfl | rfl | rfl | rfl | rfl | rfl | rfl | rfl <;> exact va_Nw.same rfl hvm h1
/-- the tables' facts at a state that a method of ours has come to -/
theorem KK.warm {B hv tn : Nat} {cA : FieldType → ClassId} {D : va_G} {s U : State} (hW : s.WarmedH U.vm) (hS : ∀ q : Nat, q < s.heap.size → ¬ AB B q → U.heap[q]? = s.heap[q]?) (h : KK B hv tn cA D s) : KK B hv tn cA D U := by
  obtain ⟨h1, h2, h3, h4, h5⟩ := h
  exact ⟨va_K.moved hW.alike h1, va_AO.moved hW.alike h2, nst_warm hW h3, (va_Z.moved hW.alike h4).kept hS, (va_Z.moved hW.alike h5).kept hS⟩
theorem KK.same {B hv tn : Nat} {cA : FieldType → ClassId} {D : va_G} {s U : State} (hvm : s.vm = U.vm) (hh : U.heap = s.heap) (h : KK B hv tn cA D s) : KK B hv tn cA D U := by
  obtain ⟨h1, h2, h3, h4, h5⟩ := h
  have hA : s.vm.Alike U.vm := by rw [hvm]; exact Vm.Alike.refl _
  refine ⟨va_K.moved hA h1, va_AO.moved hA h2, nst_same hvm h3, ?_, ?_⟩
  · rw [hh]; exact va_Z.moved hA h4
  · rw [hh]; exact va_Z.moved hA h5
def PreM (B hv tn sb : Nat) (cA : FieldType → ClassId) (D : va_G) (av : List Value) (h : AH) : Array Value → State → Prop := fun v U => v = (av.map (vz (rho B hv tn sb))).toArray ∧ HRel B hv tn sb cA D U h U.heap ∧ KK B hv tn cA D U
def PostM (B hv tn sb : Nat) (cA : FieldType → ClassId) (D : va_G) (r : Option Value) (h' : AH) : Array Value → State → Outcome → State → Prop := fun _ st oc t => oc = .returned (r.map (vz (rho B hv tn sb))) ∧ HRel B hv tn sb cA D t h' t.heap ∧ va_F (AB B) st t
def rmM (d mc ms : Nat) : Room := { frames := d + 1, cells := mc, slots := ms, locals := 100 * (d + 1) }
noncomputable def wsM (k : Nat) : List Cond := .code (yM k) (byM k) (mt k).2.1 (mt k).2.2 :: gtb
theorem PreM.blind {B hv tn sb : Nat} {cA : FieldType → ClassId} {D : va_G} {av : List Value} {h : AH} : FrameBlind (PreM B hv tn sb cA D av h) := by
  rintro a U g mk ⟨h1, h2, h3⟩
  exact ⟨h1, HRel.moved (u := U) (U := U.calling g mk a) (Vm.Alike.refl U.vm) h2, KK.same (s := U) (U := U.calling g mk a) rfl rfl h3⟩
theorem sl_args (ρ : Nat → Nat) : ∀ (av : List Value) (k i : Nat) (v : Value), (av.flatMap slA)[i]? = some (some v) → (k + i, vz ρ v) ∈ lv_args k (av.map (vz ρ))
  | [], k, i, v, h => by simp at h
  | w :: av, k, i, v, h => by
    rw [List.flatMap_cons] at h
    rw [List.map_cons]
    unfold lv_args
    cases w with
    | long x =>
      have h : ([some (.long x), none] ++ av.flatMap slA)[i]? = some (some v) := h
      match i, h with
      | 0, h => cases h; exact List.mem_cons_self
      | 1, h => cases h
      | i + 2, h =>
        have := sl_args ρ av (k + 2) i v h
        rw [show k + (i + 2) = k + 2 + i by omega]
        exact List.mem_cons_of_mem _ this
    | double x =>
      have h : ([some (.double x), none] ++ av.flatMap slA)[i]? = some (some v) := h
      match i, h with
      | 0, h => cases h; exact List.mem_cons_self
      | 1, h => cases h
      | i + 2, h =>
        have := sl_args ρ av (k + 2) i v h
        rw [show k + (i + 2) = k + 2 + i by omega]
        exact List.mem_cons_of_mem _ this
    | int x =>
      have h : ([some (.int x)] ++ av.flatMap slA)[i]? = some (some v) := h
      match i, h with
      | 0, h => cases h; exact List.mem_cons_self
      | i + 1, h =>
        have := sl_args ρ av (k + 1) i v h
        rw [show k + (i + 1) = k + 1 + i by omega]
        exact List.mem_cons_of_mem _ this
    | float x =>
      have h : ([some (.float x)] ++ av.flatMap slA)[i]? = some (some v) := h
      match i, h with
      | 0, h => cases h; exact List.mem_cons_self
      | i + 1, h =>
        have := sl_args ρ av (k + 1) i v h
        rw [show k + (i + 1) = k + 1 + i by omega]
        exact List.mem_cons_of_mem _ this
    | null =>
      have h : ([some .null] ++ av.flatMap slA)[i]? = some (some v) := h
      match i, h with
      | 0, h => cases h; exact List.mem_cons_self
      | i + 1, h =>
        have := sl_args ρ av (k + 1) i v h
        rw [show k + (i + 1) = k + 1 + i by omega]
        exact List.mem_cons_of_mem _ this
    | ref x =>
      have h : ([some (.ref x)] ++ av.flatMap slA)[i]? = some (some v) := h
      match i, h with
      | 0, h => cases h; exact List.mem_cons_self
      | i + 1, h =>
        have := sl_args ρ av (k + 1) i v h
        rw [show k + (i + 1) = k + 1 + i by omega]
        exact List.mem_cons_of_mem _ this
    | retAddr x =>
      have h : ([some (.retAddr x)] ++ av.flatMap slA)[i]? = some (some v) := h
      match i, h with
      | 0, h => cases h; exact List.mem_cons_self
      | i + 1, h =>
        have := sl_args ρ av (k + 1) i v h
        rw [show k + (i + 1) = k + 1 + i by omega]
        exact List.mem_cons_of_mem _ this
theorem sl_len (ρ : Nat → Nat) : ∀ (av : List Value), (lg_sl (av.map (vz ρ))).length = (av.flatMap slA).length
  | [] => rfl
  | w :: av => by
    have ih := sl_len ρ av
    unfold lg_sl at ih ⊢
    rw [List.map_cons, List.flatMap_cons, List.flatMap_cons, List.length_append, List.length_append, ih]
    congr 1
    cases w <;> rfl
theorem lvR_entry (ρ : Nat → Nat) (av : List Value) (n : Nat) (hn : (av.flatMap slA).length ≤ n) : lvR ρ n (enL av n) ((lg_sl (av.map (vz ρ)) ++ List.replicate (n - (lg_sl (av.map (vz ρ))).length) Slot.unset).toArray) := by
  have h := lv_entry (av.map (vz ρ)) (n := n) (by rw [sl_len]; exact hn)
  refine ⟨?_, h.1, h.2.1, ?_⟩
  · unfold enL
    rw [List.length_append, List.length_replicate]
    omega
  · rintro ⟨i, w⟩ hq
    obtain ⟨v, hv, rfl⟩ := asc_mem.mp hq
    unfold enL at hv
    rcases Nat.lt_or_ge i (av.flatMap slA).length with hi | hi
    · rw [List.getElem?_append_left hi] at hv
      have := sl_args ρ av 0 i v hv
      rw [Nat.zero_add] at this
      exact h.2.2 _ this
    · rw [List.getElem?_append_right hi] at hv
      rw [List.getElem?_replicate] at hv
      split at hv
      · cases hv
      · cases hv
