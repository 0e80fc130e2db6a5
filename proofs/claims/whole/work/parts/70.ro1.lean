/-! THE CLASS, 1: Rows -/
section
variable {h : AH} {o f s m : Nat} {n : Int32} {F Sf : Nat → Int32}
theorem sp_RO_firstAt (d : Nat) (ho : h.2 o = objA 4 [.int n, .ref f, .ref s]) (hf : h.2 f = ints m F) (hm : m < 1000) {i : Nat} (hi : i < m) : Cl d 10 [.ref o, .int (nI i)] h (some (.int (F i))) h := by
  have kC9 := co_RO_firstAt
  refine Cl_of kC9 rfl rfl ?_
  repeat (refine R_s kC9 rfl rfl ?_)
  refine Z_lt kC9 rfl rfl (by omega) (fun q => by omega) (fun _ => ?_)
  repeat (refine R_s kC9 rfl rfl ?_)
  refine R_get kC9 rfl (ho) rfl ?_
  refine R_alen kC9 rfl hf (by omega) ?_
  refine R_ge kC9 rfl (rfl) (rfl) (by omega) (by omega) (fun hc => ?_) (fun hc => ?_)
  · omega
  · repeat (refine R_s kC9 rfl rfl ?_)
    refine R_get kC9 rfl (ho) rfl ?_
    repeat (refine R_s kC9 rfl rfl ?_)
    refine R_ild kC9 rfl hf rfl hi (by omega) ?_
    refine R_g kC9 rfl ?_
    exact R_ri kC9 rfl ⟨rfl, rfl⟩
theorem sp_RO_secondAt (d : Nat) (ho : h.2 o = objA 4 [.int n, .ref f, .ref s]) (hf : h.2 s = ints m Sf) (hm : m < 1000) {i : Nat} (hi : i < m) : Cl d 11 [.ref o, .int (nI i)] h (some (.int (Sf i))) h := by
  have kC9 := co_RO_secondAt
  refine Cl_of kC9 rfl rfl ?_
  repeat (refine R_s kC9 rfl rfl ?_)
  refine Z_lt kC9 rfl rfl (by omega) (fun q => by omega) (fun _ => ?_)
  repeat (refine R_s kC9 rfl rfl ?_)
  refine R_get kC9 rfl (ho) rfl ?_
  refine R_alen kC9 rfl hf (by omega) ?_
  refine R_ge kC9 rfl (rfl) (rfl) (by omega) (by omega) (fun hc => ?_) (fun hc => ?_)
  · omega
  · repeat (refine R_s kC9 rfl rfl ?_)
    refine R_get kC9 rfl (ho) rfl ?_
    repeat (refine R_s kC9 rfl rfl ?_)
    refine R_ild kC9 rfl hf rfl hi (by omega) ?_
    refine R_g kC9 rfl ?_
    exact R_ri kC9 rfl ⟨rfl, rfl⟩
theorem sp_RO_isFull (d : Nat) {l : Nat} (ho : h.2 o = objA 4 [.int (nI l), .ref f, .ref s]) (hf : h.2 f = ints m F) (hm : m < 1000) (hl : l ≤ m) : Cl d 8 [.ref o] h (some (.int (b2i (decide (l = m))))) h := by
  have kC9 := co_RO_isFull
  refine Cl_of kC9 rfl rfl ?_
  repeat (refine R_s kC9 rfl rfl ?_)
  refine R_get kC9 rfl (ho) rfl ?_
  repeat (refine R_s kC9 rfl rfl ?_)
  refine R_get kC9 rfl (ho) rfl ?_
  refine R_alen kC9 rfl hf (by omega) ?_
  refine R_lt kC9 rfl (rfl) (rfl) (by omega) (by omega) (fun hc => ?_) (fun hc => ?_)
  · repeat (refine R_s kC9 rfl rfl ?_)
    exact R_rz kC9 rfl (Or.inl rfl) ⟨ri_eq (b2i_f (decide_eq_false (by omega))), rfl⟩
  · repeat (refine R_s kC9 rfl rfl ?_)
    refine R_g kC9 rfl ?_
    exact R_rz kC9 rfl (Or.inr rfl) ⟨ri_eq (b2i_t (decide_eq_true (by omega))), rfl⟩
theorem sp_RO_empty (d : Nat) (h3 : 3 ≤ o) (ho : h.2 o = objA 4 [.int n, .ref f, .ref s]) : Cl d 7 [.ref o] h (some (.int (nI 0))) (upH h o (objA 4 [.int (nI 0), .ref f, .ref s])) := by
  have kC9 := co_RO_empty
  refine Cl_of kC9 rfl rfl ?_
  repeat (refine R_s kC9 rfl rfl ?_)
  refine R_put kC9 rfl ho h3 (Nat.le_of_ble_eq_true rfl) rfl ?_
  repeat (refine R_s kC9 rfl rfl ?_)
  refine R_get kC9 rfl (upH_at h o _) rfl ?_
  exact R_ri kC9 rfl ⟨rfl, rfl⟩
end
