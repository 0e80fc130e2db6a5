/-! THE CLASS, 3: Rows: find -/
section
variable {h : AH} {o f s m : Nat} {F Sf : Nat → Int32} {ch : List Nat}
theorem lp_ROfind (d : Nat) (ho : h.2 o = objA 4 [.int (nI ch.length), .ref f, .ref s]) (hf : h.2 f = ints m F) (hm : m < 1000) (hl : ch.length ≤ m) (hF : ∀ i x, ch[i]? = some x → F i = nI x) (v : Int32) : ∀ (j i : Nat), i + j = ch.length → idxF v ch 0 = idxF v (ch.drop i) i → R d 12 2 [some (.ref o), some (.int v), some (.int (nI i))] [] h (fun r2 h2 => r2 = some (.int (idxR ch v)) ∧ h2 = h) := by
  have kC9 := co_RO_find
  intro j
  induction j with
  | zero =>
    intro i hi he
    repeat (refine R_s kC9 rfl rfl ?_)
    refine R_get kC9 rfl (ho) rfl ?_
    refine R_ge kC9 rfl (rfl) (rfl) (by omega) (by omega) (fun hc => ?_) (fun hc => ?_)
    · repeat (refine R_s kC9 rfl rfl ?_)
      refine R_ri kC9 rfl ⟨?_, rfl⟩
      unfold idxR
      rw [he, List.drop_eq_nil_of_le (by omega)]
      rfl
    · omega
  | succ j ih =>
    intro i hi he
    repeat (refine R_s kC9 rfl rfl ?_)
    refine R_get kC9 rfl (ho) rfl ?_
    refine R_ge kC9 rfl (rfl) (rfl) (by omega) (by omega) (fun hc => ?_) (fun hc => ?_)
    · omega
    · obtain ⟨x, hx⟩ : ∃ x, ch[i]? = some x := ⟨ch[i], List.getElem?_eq_getElem hc⟩
      repeat (refine R_s kC9 rfl rfl ?_)
      refine R_get kC9 rfl (ho) rfl ?_
      repeat (refine R_s kC9 rfl rfl ?_)
      refine R_ild kC9 rfl hf (k := i) rfl (by omega) (by omega) ?_
      rw [hF i x hx]
      rw [drop_cons hx, idxF_cons] at he
      repeat (refine R_s kC9 rfl rfl ?_)
      refine Rr_ne kC9 rfl (fun hd => ?_) (fun hd => ?_)
      · repeat (refine R_s kC9 rfl rfl ?_)
        refine R_g kC9 rfl ?_
        refine (show R d 12 2 [some (.ref o), some (.int v), some (.int (nI i + nI 1))] [] h _ from ?_)
        rw [nI_add]
        refine ih (i + 1) (by omega) ?_
        rw [if_neg hd] at he
        exact he
      · repeat (refine R_s kC9 rfl rfl ?_)
        refine R_ri kC9 rfl ⟨?_, rfl⟩
        unfold idxR
        rw [if_pos hd] at he
        rw [he]
theorem sp_RO_find (d : Nat) (ho : h.2 o = objA 4 [.int (nI ch.length), .ref f, .ref s]) (hf : h.2 f = ints m F) (hm : m < 1000) (hl : ch.length ≤ m) (hF : ∀ i x, ch[i]? = some x → F i = nI x) (v : Int32) : Cl d 12 [.ref o, .int v] h (some (.int (idxR ch v))) h := by
  have kC9 := co_RO_find
  refine Cl_of kC9 rfl rfl ?_
  iterate 2 (refine R_s kC9 rfl rfl ?_)
  exact lp_ROfind d ho hf hm hl hF v ch.length 0 (by omega) rfl
end
