/-! THE CLASS, 2: Rows: put, find -/
/-- rows of two numbers, as the class holds them -/
def rwF (l : List (Int32 × Int32)) (F Sf : Nat → Int32) : Prop := ∀ i x, l[i]? = some x → F i = x.1 ∧ Sf i = x.2
theorem rwF_push {l : List (Int32 × Int32)} {F Sf : Nat → Int32} (h : rwF l F Sf) (x y : Int32) : rwF (l ++ [(x, y)]) (upd F l.length x) (upd Sf l.length y) := by
  intro i z hz
  rcases Nat.lt_or_ge i l.length with q | q
  · rw [List.getElem?_append_left q] at hz
    rw [pk_un (by omega), pk_un (by omega)]
    exact h i z hz
  · have hlt := (List.getElem?_eq_some_iff.mp hz).1
    rw [List.length_append] at hlt
    have : i = l.length := by simp at hlt; omega
    subst this
    rw [List.getElem?_append_right (Nat.le_refl _), Nat.sub_self] at hz
    have e : z = (x, y) := by simpa using hz.symm
    subst e
    exact ⟨pk_us, pk_us⟩
section
variable {h : AH} {o f s m : Nat} {F Sf : Nat → Int32} {l : List (Int32 × Int32)}
theorem sp_RO_put (d : Nat) (h3 : 3 ≤ o) (hf3 : 3 ≤ f) (hs3 : 3 ≤ s) (hof : o ≠ f) (hos : o ≠ s) (hfs : f ≠ s) (ho : h.2 o = objA 4 [.int (nI l.length), .ref f, .ref s]) (hf : h.2 f = ints m F) (hs : h.2 s = ints m Sf) (hm : m < 1000) (hl : l.length < m) (x y : Int32) : Cl (d + 1) 9 [.ref o, .int x, .int y] h (some (.int (nI (l.length + 1)))) (upH (upH (upH h f (ints m (upd F l.length x))) s (ints m (upd Sf l.length y))) o (objA 4 [.int (nI (l.length + 1)), .ref f, .ref s])) := by
  have kC9 := co_RO_put
  refine Cl_of kC9 rfl rfl ?_
  repeat (refine R_s kC9 rfl rfl ?_)
  refine R_cv kC9 rfl rfl rfl rfl ho h3 (sp_RO_isFull d ho hf hm (by omega)) ?_
  refine ZB_ne kC9 rfl (fun q => ?_) (fun _ => ?_)
  · have := of_decide_eq_true q
    omega
  · have ho1 : (upH h f (ints m (upd F l.length x))).2 o = objA 4 [.int (nI l.length), .ref f, .ref s] := (upH_ne h _ hof).trans ho
    have hs1 : (upH h f (ints m (upd F l.length x))).2 s = ints m Sf := (upH_ne h _ (Ne.symm hfs)).trans hs
    have ho2 : (upH (upH h f (ints m (upd F l.length x))) s (ints m (upd Sf l.length y))).2 o = objA 4 [.int (nI l.length), .ref f, .ref s] := (upH_ne _ _ hos).trans ho1
    repeat (refine R_s kC9 rfl rfl ?_)
    refine R_get kC9 rfl (ho) rfl ?_
    repeat (refine R_s kC9 rfl rfl ?_)
    refine R_get kC9 rfl (ho) rfl ?_
    repeat (refine R_s kC9 rfl rfl ?_)
    refine R_ist kC9 rfl hf hf3 rfl hl (by omega) ?_
    repeat (refine R_s kC9 rfl rfl ?_)
    refine R_get kC9 rfl (ho1) rfl ?_
    repeat (refine R_s kC9 rfl rfl ?_)
    refine R_get kC9 rfl (ho1) rfl ?_
    repeat (refine R_s kC9 rfl rfl ?_)
    refine R_ist kC9 rfl hs1 hs3 rfl hl (by omega) ?_
    repeat (refine R_s kC9 rfl rfl ?_)
    refine R_get kC9 rfl (ho2) rfl ?_
    repeat (refine R_s kC9 rfl rfl ?_)
    refine R_put kC9 rfl ho2 h3 (Nat.le_of_ble_eq_true rfl) rfl ?_
    refine (show R (d + 1) 9 21 _ [] (upH (upH (upH h f (ints m (upd F l.length x))) s (ints m (upd Sf l.length y))) o (objA 4 [.int (nI l.length + nI 1), .ref f, .ref s])) _ from ?_)
    rw [nI_add l.length 1]
    repeat (refine R_s kC9 rfl rfl ?_)
    refine R_get kC9 rfl (upH_at _ o _) rfl ?_
    exact R_ri kC9 rfl ⟨rfl, rfl⟩
end
