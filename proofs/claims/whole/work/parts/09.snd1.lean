/-! WHAT THE SMALL MACHINE SAYS HOLDS OF THE MACHINE: 1, the words, the simple steps -/
def rho (B hv tn sb : Nat) (r : Nat) : Nat := match r with
  | 0 => hv
  | 1 => tn
  | 2 => sb
  | k + 3 => B + k
def vz (ρ : Nat → Nat) (v : Value) : Value := match v with
  | .ref r => .ref (ρ r)
  | v => v
def cz (ρ : Nat → Nat) (cA : FieldType → ClassId) (c : AC) : va_E := match c with
  | .inl (ty, n, .inl f) => .inl (cA ty, n, .inl f)
  | .inl (ty, n, .inr (.inl f)) => .inl (cA ty, n, .inr (.inl f))
  | .inl (ty, n, .inr (.inr (.inl f))) => .inl (cA ty, n, .inr (.inr (.inl f)))
  | .inl (ty, n, .inr (.inr (.inr (.inl f)))) => .inl (cA ty, n, .inr (.inr (.inr (.inl f))))
  | .inl (ty, n, .inr (.inr (.inr (.inr f)))) => .inl (cA ty, n, .inr (.inr (.inr (.inr (fun i => (f i).map ρ)))))
  | .inr (ci, fs) => .inr (ci, fs.map (vz ρ))
def asc (ρ : Nat → Nat) (ls : ALs) : List (Nat × Value) := (List.range ls.length).filterMap (fun j => match ls[j]? with
  | some (some v) => some (j, vz ρ v)
  | _ => none)
theorem asc_mem {ρ : Nat → Nat} {ls : ALs} {j : Nat} {w : Value} : (j, w) ∈ asc ρ ls ↔ ∃ v, ls[j]? = some (some v) ∧ w = vz ρ v := by
  unfold asc
  rw [List.mem_filterMap]
  constructor
  · rintro ⟨k, hk, he⟩
    cases hc : ls[k]? with
    | none => rw [hc] at he; cases he
    | some o =>
      rw [hc] at he
      cases o with
      | none => cases he
      | some v =>
        cases he
        exact ⟨v, hc, rfl⟩
  · rintro ⟨v, hv, rfl⟩
    refine ⟨j, List.mem_range.mpr (List.getElem?_eq_some_iff.mp hv).1, ?_⟩
    rw [hv]
def lvR (ρ : Nat → Nat) (nL : Nat) (ls : ALs) (L : Array Slot) : Prop := ls.length = nL ∧ lv_has L nL (asc ρ ls)
theorem lvR.at {ρ : Nat → Nat} {nL : Nat} {ls : ALs} {L : Array Slot} (h : lvR ρ nL ls L) {i : Nat} {v : Value} (hv : ls[i]? = some (some v)) : L[i]? = some (.val (vz ρ v)) := h.2.2.2 (i, vz ρ v) (asc_mem.mpr ⟨v, hv, rfl⟩)
theorem vz_cat (ρ : Nat → Nat) (v : Value) : (vz ρ v).category = v.category := by cases v <;> rfl
theorem okSt_cat {ls : ALs} {j i : Nat} {v : Value} (ho : okSt ls i = true) (hv : ls[j]? = some (some v)) (hj : j + 1 = i) : v.category = 1 := by
  subst hj
  unfold okSt at ho
  dsimp only at ho
  rw [hv] at ho
  cases v with
  | long x => cases ho
  | double x => cases ho
  | _ => rfl
theorem lvR.st1 {ρ : Nat → Nat} {nL : Nat} {ls : ALs} {L' : Array Slot} {i : Nat} {v : Value} (hlen : ls.length = nL) (ho : okSt ls i = true) (hi : i < ls.length) (h : lv_has L' nL ((i, vz ρ v) :: (asc ρ ls).filter (fun q => !(q.1 == i) && !(q.1 + 1 == i && q.2.category == 2)))) : lvR ρ nL (ls.set i (some v)) L' := by
  refine ⟨by rw [List.length_set]; exact hlen, h.1, h.2.1, ?_⟩
  rintro ⟨j, w⟩ hq
  obtain ⟨u, hu, rfl⟩ := asc_mem.mp hq
  by_cases hj : j = i
  · subst hj
    rw [List.getElem?_set_self hi] at hu
    cases hu
    exact h.2.2 _ List.mem_cons_self
  · rw [List.getElem?_set_ne (Ne.symm hj)] at hu
    refine h.2.2 _ (List.mem_cons_of_mem _ (List.mem_filter.mpr ⟨asc_mem.mpr ⟨u, hu, rfl⟩, ?_⟩))
    by_cases hj2 : j + 1 = i
    · have hc := okSt_cat ho hu hj2
      simp [hj, vz_cat, hc]
    · simp [hj, hj2]
theorem lvR.st2 {ρ : Nat → Nat} {nL : Nat} {ls : ALs} {L' : Array Slot} {i : Nat} {v : Value} (hlen : ls.length = nL) (ho : okSt ls i = true) (hi : i + 1 < ls.length) (h : lv_has L' nL ((i, vz ρ v) :: (asc ρ ls).filter (fun q => !(q.1 == i) && (!(q.1 == i + 1) && !(q.1 + 1 == i && q.2.category == 2))))) : lvR ρ nL ((ls.set i (some v)).set (i + 1) none) L' := by
  refine ⟨by rw [List.length_set, List.length_set]; exact hlen, h.1, h.2.1, ?_⟩
  rintro ⟨j, w⟩ hq
  obtain ⟨u, hu, rfl⟩ := asc_mem.mp hq
  by_cases hj1 : j = i + 1
  · subst hj1
    rw [List.getElem?_set_self (by rw [List.length_set]; exact hi)] at hu
    cases hu
  · rw [List.getElem?_set_ne (Ne.symm hj1)] at hu
    by_cases hj : j = i
    · subst hj
      rw [List.getElem?_set_self (by omega)] at hu
      cases hu
      exact h.2.2 _ List.mem_cons_self
    · rw [List.getElem?_set_ne (Ne.symm hj)] at hu
      refine h.2.2 _ (List.mem_cons_of_mem _ (List.mem_filter.mpr ⟨asc_mem.mpr ⟨u, hu, rfl⟩, ?_⟩))
      by_cases hj2 : j + 1 = i
      · have hc := okSt_cat ho hu hj2
        simp [hj, hj1, vz_cat, hc]
      · simp [hj, hj1, hj2]
theorem ckE_dec {mi : Nat} {bp : Nat} {ins : Instr} {x : Int32} {y : Int64} {j a b : Nat} {ts hs : List Nat} (h : ckE mi (bp, ins, x, y, j, a, b, ts) hs = true) : ∃ n, decode (byM mi) bp = .ok (ins, n) ∧ ckI mi (yM mi).cls ins n bp x y j a b ts hs = true := by
  unfold ckE at h
  dsimp only at h
  cases hd : decode (byM mi) bp with
  | error e => rw [hd] at h; cases h
  | ok q =>
    obtain ⟨i2, n⟩ := q
    rw [hd] at h
    dsimp only at h
    rw [Bool.and_eq_true, decide_eq_true_eq] at h
    exact ⟨n, by rw [h.1], h.2⟩
theorem ckL_at {mi : Nat} : ∀ (es : List EI) (hs : List (List Nat)), ckL mi es hs = true → ∀ (i : Nat) (e : EI), es[i]? = some e → ∃ h, ckE mi e h = true
  | [], _, _, i, e, h => by simp at h
  | e0 :: es, hs, hc, i, e, h => by
    unfold ckL at hc
    rw [Bool.and_eq_true] at hc
    cases i with
    | zero =>
      rw [List.getElem?_cons_zero] at h
      cases h
      exact ⟨_, hc.1⟩
    | succ i =>
      rw [List.getElem?_cons_succ] at h
      exact ckL_at es hs.tail hc.2 i e h
section
variable {p : Program} {l : Launch} {e : Env} {R : Room} {s : State} {m : MethodId} {args : Array Value} {below : List Frame} {meth : Method} {c : Code} {H : Heap} {locs : List Loc} {cells slots : Nat} {Q : State → Prop} {ρ : Nat → Nat}
theorem fall_of {mi j bp n : Nat} (h : fallT mi j bp n = true) : bpc mi j = some (bp + n) := by
  unfold fallT at h; exact of_decide_eq_true h
theorem jump_of {mi t bp : Nat} {off : Int} (h : jumpT mi t bp off = true) : ∃ q : Nat, bpc mi t = some q ∧ (bp : Int) + off = (q : Int) := by
  unfold jumpT at h
  cases hb : bpc mi t with
  | none => rw [hb] at h; cases h
  | some q => rw [hb] at h; exact ⟨q, rfl, of_decide_eq_true h⟩
set_option maxHeartbeats 4000000 in
theorem sn1 {mi bp j a b nL : Nat} {ins : Instr} {x : Int32} {y : Int64} {ts hs : List Nat} {ls ls' : ALs} {st st' : List Value} {L : Array Slot} (hx : p.tables.exec = Jvm.exec) (hb : c.code = byM mi) (hown : s.vm.findClass (yM mi).cls = some m.cls) (hts : ∀ w ∈ gtb, w.before args s = true) (ck : ckE mi (bp, ins, x, y, j, a, b, ts) hs = true) (hst : step1 ins x y ls st = some (ls', st')) (hl : lvR ρ nL ls L)
    (kk : ∀ (L' : Array Slot) (bq : Nat), lvR ρ nL ls' L' → bpc mi j = some bq → W p l e R s m args below meth c H locs cells slots Q (F0 m bq L' (st'.map (vz ρ)))) : W p l e R s m args below meth c H locs cells slots Q (F0 m bp L (st.map (vz ρ))) := by
  obtain ⟨n, hd, hI⟩ := ckE_dec ck
  have hlen := hl.1
  have ldI' : ∀ {i : Nat}, ldI ls i st = some (ls', st') → ∃ v : Int32, L[i]? = some (.val (.int v)) ∧ ls' = ls ∧ st' = .int v :: st := by
    intro i h
    unfold ldI at h
    split at h
    · rename_i v hv
      cases h
      exact ⟨v, hl.at hv, rfl, rfl⟩
    · cases h
  have ldL' : ∀ {i : Nat}, ldL ls i st = some (ls', st') → ∃ v : Int64, L[i]? = some (.val (.long v)) ∧ ls' = ls ∧ st' = .long v :: st := by
    intro i h
    unfold ldL at h
    split at h
    · rename_i v hv
      cases h
      exact ⟨v, hl.at hv, rfl, rfl⟩
    · cases h
  have ldA' : ∀ {i : Nat}, ldA ls i st = some (ls', st') → (∃ v : Nat, L[i]? = some (.val (.ref (ρ v))) ∧ ls' = ls ∧ st' = .ref v :: st) ∨ (L[i]? = some (.val .null) ∧ ls' = ls ∧ st' = .null :: st) := by
    intro i h
    unfold ldA at h
    split at h
    · rename_i v hv
      cases h
      exact Or.inl ⟨v, hl.at hv, rfl, rfl⟩
    · rename_i hv
      cases h
      exact Or.inr ⟨hl.at hv, rfl, rfl⟩
    · cases h
  have st1' : ∀ {i : Nat} {v : Value} {st0 : List Value}, st1 ls i v st0 = some (ls', st') → i < nL ∧ st' = st0 ∧ ∀ L' : Array Slot, lv_has L' nL ((i, vz ρ v) :: (asc ρ ls).filter (fun q => !(q.1 == i) && !(q.1 + 1 == i && q.2.category == 2))) → lvR ρ nL ls' L' := by
    intro i v st0 h
    unfold st1 at h
    split at h
    · rename_i hi
      split at h
      · rename_i ho
        cases h
        exact ⟨by rw [← hlen]; exact hi, rfl, fun L' h' => lvR.st1 hlen ho hi h'⟩
      · cases h
    · cases h
  have st2' : ∀ {i : Nat} {v : Value} {st0 : List Value}, st2 ls i v st0 = some (ls', st') → i + 1 < nL ∧ st' = st0 ∧ ∀ L' : Array Slot, lv_has L' nL ((i, vz ρ v) :: (asc ρ ls).filter (fun q => !(q.1 == i) && (!(q.1 == i + 1) && !(q.1 + 1 == i && q.2.category == 2)))) → lvR ρ nL ls' L' := by
    intro i v st0 h
    unfold st2 at h
    split at h
    · rename_i hi
      split at h
      · rename_i ho
        cases h
        exact ⟨by rw [← hlen]; exact hi, rfl, fun L' h' => lvR.st2 hlen ho hi h'⟩
      · cases h
    · cases h
  unfold step1 at hst
  unfold ckI at hI
  split at hst
  case h_1 => -- iconst
    dsimp only at hI
    simp only [Bool.and_eq_true, decide_eq_true_eq] at hI
    obtain ⟨⟨rfl, hf⟩, hv⟩ := hI
    cases hst
    exact lv_iconst hx hb hd hv (kk L _ hl (fall_of hf))
  case h_2 => -- bipush
    dsimp only at hI
    simp only [Bool.and_eq_true, decide_eq_true_eq] at hI
    obtain ⟨⟨rfl, hf⟩, hv⟩ := hI
    cases hst
    exact lv_bipush hx hb hd hv (kk L _ hl (fall_of hf))
  case h_3 => -- sipush
    dsimp only at hI
    simp only [Bool.and_eq_true, decide_eq_true_eq] at hI
    obtain ⟨⟨rfl, hf⟩, hv⟩ := hI
    cases hst
    exact lv_sipush hx hb hd hv (kk L _ hl (fall_of hf))
  case h_4 => -- ldc_w
    dsimp only at hI
    simp only [Bool.and_eq_true, decide_eq_true_eq] at hI
    obtain ⟨⟨rfl, hf⟩, hv⟩ := hI
    cases hst
    exact lv_ldcw hx hb hown (hts _ (wAt_mem hv)) hd (kk L _ hl (fall_of hf))
  case h_5 => -- lconst
    dsimp only at hI
    simp only [Bool.and_eq_true, decide_eq_true_eq] at hI
    obtain ⟨⟨rfl, hf⟩, hv⟩ := hI
    cases hst
    exact lv_lconst hx hb hd hv (kk L _ hl (fall_of hf))
  case h_6 => -- ldc2_w
    dsimp only at hI
    simp only [Bool.and_eq_true, decide_eq_true_eq] at hI
    obtain ⟨⟨rfl, hf⟩, hv⟩ := hI
    cases hst
    exact lv_ldc2 hx hb hown (hts _ (wAt_mem hv)) hd (kk L _ hl (fall_of hf))
  case h_7 => -- aconst_null
    dsimp only at hI
    simp only [Bool.and_eq_true, decide_eq_true_eq] at hI
    obtain ⟨rfl, hf⟩ := hI
    cases hst
    exact lv_null hx hb hd (kk L _ hl (fall_of hf))
  case h_8 => -- iload
    dsimp only at hI
    simp only [Bool.and_eq_true, decide_eq_true_eq] at hI
    obtain ⟨rfl, hf⟩ := hI
    obtain ⟨v, hv, rfl, rfl⟩ := ldI' hst
    exact lv_iload hx hb hd hv (kk L _ hl (fall_of hf))
  case h_9 => -- iload_n
    dsimp only at hI
    simp only [Bool.and_eq_true, decide_eq_true_eq] at hI
    obtain ⟨rfl, hf⟩ := hI
    obtain ⟨v, hv, rfl, rfl⟩ := ldI' hst
    exact lv_iload_n hx hb hd rfl hv (kk L _ hl (fall_of hf))
  case h_10 => -- lload
    dsimp only at hI
    simp only [Bool.and_eq_true, decide_eq_true_eq] at hI
    obtain ⟨rfl, hf⟩ := hI
    obtain ⟨v, hv, rfl, rfl⟩ := ldL' hst
    exact lv_lload hx hb hd hv (kk L _ hl (fall_of hf))
  case h_11 => -- lload_n
    dsimp only at hI
    simp only [Bool.and_eq_true, decide_eq_true_eq] at hI
    obtain ⟨rfl, hf⟩ := hI
    obtain ⟨v, hv, rfl, rfl⟩ := ldL' hst
    exact lv_lload_n hx hb hd rfl hv (kk L _ hl (fall_of hf))
  case h_12 => -- aload
    dsimp only at hI
    simp only [Bool.and_eq_true, decide_eq_true_eq] at hI
    obtain ⟨rfl, hf⟩ := hI
    rcases ldA' hst with ⟨v, hv, rfl, rfl⟩ | ⟨hv, rfl, rfl⟩
    · exact lv_aload hx hb hd hv (kk L _ hl (fall_of hf))
    · exact lv_aloadN hx hb hd hv (kk L _ hl (fall_of hf))
  case h_13 => -- aload_n
    dsimp only at hI
    simp only [Bool.and_eq_true, decide_eq_true_eq] at hI
    obtain ⟨rfl, hf⟩ := hI
    rcases ldA' hst with ⟨v, hv, rfl, rfl⟩ | ⟨hv, rfl, rfl⟩
    · exact lv_aload_n hx hb hd rfl hv (kk L _ hl (fall_of hf))
    · exact lv_aload_nN hx hb hd rfl hv (kk L _ hl (fall_of hf))
  case h_14 => -- istore
    dsimp only at hI
    simp only [Bool.and_eq_true, decide_eq_true_eq] at hI
    obtain ⟨rfl, hf⟩ := hI
    unfold stI at hst
    split at hst
    · obtain ⟨hi, rfl, hL⟩ := st1' hst
      exact lv_istore hx hb hd hl.2 hi rfl (fun L' h' => kk L' _ (hL L' h') (fall_of hf))
    · cases hst
  case h_15 => -- istore_n
    dsimp only at hI
    simp only [Bool.and_eq_true, decide_eq_true_eq] at hI
    obtain ⟨rfl, hf⟩ := hI
    unfold stI at hst
    split at hst
    · obtain ⟨hi, rfl, hL⟩ := st1' hst
      exact lv_istore_n hx hb hd rfl hl.2 hi rfl (fun L' h' => kk L' _ (hL L' h') (fall_of hf))
    · cases hst
  case h_16 => -- lstore
    dsimp only at hI
    simp only [Bool.and_eq_true, decide_eq_true_eq] at hI
    obtain ⟨rfl, hf⟩ := hI
    unfold stLo at hst
    split at hst
    · obtain ⟨hi, rfl, hL⟩ := st2' hst
      exact lv_lstore hx hb hd hl.2 hi rfl (fun L' h' => kk L' _ (hL L' h') (fall_of hf))
    · cases hst
  case h_17 => -- lstore_n
    dsimp only at hI
    simp only [Bool.and_eq_true, decide_eq_true_eq] at hI
    obtain ⟨rfl, hf⟩ := hI
    unfold stLo at hst
    split at hst
    · obtain ⟨hi, rfl, hL⟩ := st2' hst
      exact lv_lstore_n hx hb hd rfl hl.2 hi rfl (fun L' h' => kk L' _ (hL L' h') (fall_of hf))
    · cases hst
  case h_18 => -- astore
    dsimp only at hI
    simp only [Bool.and_eq_true, decide_eq_true_eq] at hI
    obtain ⟨rfl, hf⟩ := hI
    unfold stA at hst
    split at hst
    · obtain ⟨hi, rfl, hL⟩ := st1' hst
      exact lv_astore hx hb hd hl.2 hi rfl (fun L' h' => kk L' _ (hL L' h') (fall_of hf))
    · obtain ⟨hi, rfl, hL⟩ := st1' hst
      exact lv_astoreN hx hb hd hl.2 hi rfl (fun L' h' => kk L' _ (hL L' h') (fall_of hf))
    · cases hst
  case h_19 => -- astore_n
    dsimp only at hI
    simp only [Bool.and_eq_true, decide_eq_true_eq] at hI
    obtain ⟨rfl, hf⟩ := hI
    unfold stA at hst
    split at hst
    · obtain ⟨hi, rfl, hL⟩ := st1' hst
      exact lv_astore_n hx hb hd rfl hl.2 hi rfl (fun L' h' => kk L' _ (hL L' h') (fall_of hf))
    · obtain ⟨hi, rfl, hL⟩ := st1' hst
      exact lv_astore_nN hx hb hd rfl hl.2 hi rfl (fun L' h' => kk L' _ (hL L' h') (fall_of hf))
    · cases hst
  case h_20 => -- iinc
    dsimp only at hI
    simp only [Bool.and_eq_true, decide_eq_true_eq] at hI
    obtain ⟨⟨rfl, hf⟩, hv⟩ := hI
    unfold incS at hst
    split at hst
    · rename_i v hv0
      obtain ⟨hi, rfl, hL⟩ := st1' hst
      obtain ⟨k, hk⟩ := List.getElem?_of_mem (asc_mem.mpr ⟨_, hv0, rfl⟩ : (_, vz ρ (.int v)) ∈ asc ρ ls)
      exact lv_iinc hx hb hd hl.2 hk (by rw [hv]) hi rfl (fun L' h' => kk L' _ (hL L' h') (fall_of hf))
    · cases hst
  case h_21 => -- iadd
    dsimp only at hI
    simp only [Bool.and_eq_true, decide_eq_true_eq] at hI
    obtain ⟨rfl, hf⟩ := hI
    split at hst
    · cases hst
      exact lv_iadd hx hb hd (kk L _ hl (fall_of hf))
    · cases hst
  case h_22 => -- isub
    dsimp only at hI
    simp only [Bool.and_eq_true, decide_eq_true_eq] at hI
    obtain ⟨rfl, hf⟩ := hI
    split at hst
    · cases hst
      exact lv_isub hx hb hd (kk L _ hl (fall_of hf))
    · cases hst
  case h_23 => -- imul
    dsimp only at hI
    simp only [Bool.and_eq_true, decide_eq_true_eq] at hI
    obtain ⟨rfl, hf⟩ := hI
    split at hst
    · cases hst
      exact lv_imul hx hb hd (kk L _ hl (fall_of hf))
    · cases hst
  case h_24 => -- iand
    dsimp only at hI
    simp only [Bool.and_eq_true, decide_eq_true_eq] at hI
    obtain ⟨rfl, hf⟩ := hI
    split at hst
    · cases hst
      exact lv_iand hx hb hd (kk L _ hl (fall_of hf))
    · cases hst
  case h_25 => -- ior
    dsimp only at hI
    simp only [Bool.and_eq_true, decide_eq_true_eq] at hI
    obtain ⟨rfl, hf⟩ := hI
    split at hst
    · cases hst
      exact lv_ior hx hb hd (kk L _ hl (fall_of hf))
    · cases hst
  case h_26 => -- ixor
    dsimp only at hI
    simp only [Bool.and_eq_true, decide_eq_true_eq] at hI
    obtain ⟨rfl, hf⟩ := hI
    split at hst
    · cases hst
      exact lv_ixor hx hb hd (kk L _ hl (fall_of hf))
    · cases hst
  case h_27 => -- ishl
    dsimp only at hI
    simp only [Bool.and_eq_true, decide_eq_true_eq] at hI
    obtain ⟨rfl, hf⟩ := hI
    split at hst
    · cases hst
      exact lv_ishl hx hb hd (kk L _ hl (fall_of hf))
    · cases hst
  case h_28 => -- ishr
    dsimp only at hI
    simp only [Bool.and_eq_true, decide_eq_true_eq] at hI
    obtain ⟨rfl, hf⟩ := hI
    split at hst
    · cases hst
      exact lv_ishr hx hb hd (kk L _ hl (fall_of hf))
    · cases hst
  case h_29 => -- iushr
    dsimp only at hI
    simp only [Bool.and_eq_true, decide_eq_true_eq] at hI
    obtain ⟨rfl, hf⟩ := hI
    split at hst
    · cases hst
      exact lv_iushr hx hb hd rfl (kk L _ hl (fall_of hf))
    · cases hst
  case h_30 => -- ineg
    dsimp only at hI
    simp only [Bool.and_eq_true, decide_eq_true_eq] at hI
    obtain ⟨rfl, hf⟩ := hI
    split at hst
    · cases hst
      exact lv_ineg hx hb hd (kk L _ hl (fall_of hf))
    · cases hst
  case h_31 => -- i2l
    dsimp only at hI
    simp only [Bool.and_eq_true, decide_eq_true_eq] at hI
    obtain ⟨rfl, hf⟩ := hI
    split at hst
    · cases hst
      exact lv_i2l hx hb hd rfl (kk L _ hl (fall_of hf))
    · cases hst
  case h_32 => -- l2i
    dsimp only at hI
    simp only [Bool.and_eq_true, decide_eq_true_eq] at hI
    obtain ⟨rfl, hf⟩ := hI
    split at hst
    · cases hst
      exact lv_l2i hx hb hd rfl (kk L _ hl (fall_of hf))
    · cases hst
  case h_33 => -- i2b
    dsimp only at hI
    simp only [Bool.and_eq_true, decide_eq_true_eq] at hI
    obtain ⟨rfl, hf⟩ := hI
    split at hst
    · cases hst
      exact lv_i2b hx hb hd rfl (kk L _ hl (fall_of hf))
    · cases hst
  case h_34 => -- i2s
    dsimp only at hI
    simp only [Bool.and_eq_true, decide_eq_true_eq] at hI
    obtain ⟨rfl, hf⟩ := hI
    split at hst
    · cases hst
      exact lv_i2s hx hb hd rfl (kk L _ hl (fall_of hf))
    · cases hst
  case h_35 => -- lor
    dsimp only at hI
    simp only [Bool.and_eq_true, decide_eq_true_eq] at hI
    obtain ⟨rfl, hf⟩ := hI
    split at hst
    · cases hst
      exact lv_lor hx hb hd (kk L _ hl (fall_of hf))
    · cases hst
  case h_36 => -- land
    dsimp only at hI
    simp only [Bool.and_eq_true, decide_eq_true_eq] at hI
    obtain ⟨rfl, hf⟩ := hI
    split at hst
    · cases hst
      exact lv_land hx hb hd (kk L _ hl (fall_of hf))
    · cases hst
  case h_37 => -- lshl
    dsimp only at hI
    simp only [Bool.and_eq_true, decide_eq_true_eq] at hI
    obtain ⟨rfl, hf⟩ := hI
    split at hst
    · cases hst
      exact lv_lshl hx hb hd rfl (kk L _ hl (fall_of hf))
    · cases hst
  case h_38 => -- lcmp
    dsimp only at hI
    simp only [Bool.and_eq_true, decide_eq_true_eq] at hI
    obtain ⟨rfl, hf⟩ := hI
    split at hst
    · cases hst
      exact W.lcmp hx hb hd (kk L _ hl (fall_of hf))
    · cases hst
  case h_39 => -- dup
    dsimp only at hI
    simp only [Bool.and_eq_true, decide_eq_true_eq] at hI
    obtain ⟨rfl, hf⟩ := hI
    unfold dupS at hst
    split at hst
    · cases hst
      exact lv_dup hx hb hd rfl (kk L _ hl (fall_of hf))
    · cases hst
      exact lv_dup hx hb hd rfl (kk L _ hl (fall_of hf))
    · cases hst
  case h_40 => -- dup2
    dsimp only at hI
    simp only [Bool.and_eq_true, decide_eq_true_eq] at hI
    obtain ⟨rfl, hf⟩ := hI
    unfold dup2S at hst
    split at hst
    · cases hst
      exact lv_dup2_11 hx hb hd rfl rfl (kk L _ hl (fall_of hf))
    · cases hst
  case h_41 => -- pop
    dsimp only at hI
    simp only [Bool.and_eq_true, decide_eq_true_eq] at hI
    obtain ⟨rfl, hf⟩ := hI
    unfold popS at hst
    split at hst
    · cases hst
      exact lv_pop hx hb hd rfl (kk L _ hl (fall_of hf))
    · cases hst
  case h_42 => cases hst
end
