/-! 2: branches, switches, divisions, Math, the ends of a method -/
section
variable {p : Program} {l : Launch} {e : Env} {R : Room} {s : State} {m : MethodId} {args : Array Value} {below : List Frame} {meth : Method} {c : Code} {H : Heap} {locs : List Loc} {cells slots : Nat} {Q : State → Prop} {ρ : Nat → Nat}
set_option maxHeartbeats 4000000 in
theorem snB {mi bp j a b : Nat} {ins : Instr} {x : Int32} {y : Int64} {ts hs : List Nat} {st st' : List Value} {L : Array Slot} {cnd : Bool} (hx : p.tables.exec = Jvm.exec) (hb : c.code = byM mi) (ck : ckE mi (bp, ins, x, y, j, a, b, ts) hs = true) (hst : stepB ins st = some (cnd, st'))
    (kk : ∀ (bq : Nat), bpc mi (if cnd = true then a else j) = some bq → W p l e R s m args below meth c H locs cells slots Q (F0 m bq L (st'.map (vz ρ)))) : W p l e R s m args below meth c H locs cells slots Q (F0 m bp L (st.map (vz ρ))) := by
  obtain ⟨n, hd, hI⟩ := ckE_dec ck
  unfold stepB at hst
  unfold ckI at hI
  split at hst
  case h_1 =>
    dsimp only at hI
    simp only [Bool.and_eq_true, decide_eq_true_eq] at hI
    obtain ⟨rfl, hj⟩ := hI
    obtain ⟨q, hq, ht⟩ := jump_of hj
    cases hst
    exact lv_goto hx hb hd ht (kk q hq)
  case h_2 cn off =>
    dsimp only at hI
    simp only [Bool.and_eq_true, decide_eq_true_eq] at hI
    obtain ⟨⟨rfl, hf⟩, hj⟩ := hI
    obtain ⟨q, hq, ht⟩ := jump_of hj
    have hf := fall_of hf
    split at hst
    · cases hst
      cases cn with
      | eq => exact lv_if_eq hx hb hd ht (fun h => kk q (by rw [if_pos (by simp [cmpI, h])]; exact hq)) (fun h => kk _ (by rw [if_neg (by simp [cmpI, h])]; exact hf))
      | ne => exact lv_if_ne hx hb hd ht (fun h => kk q (by rw [if_pos (by simp [cmpI, h])]; exact hq)) (fun h => kk _ (by rw [if_neg (by simp [cmpI]; simpa using h)]; exact hf))
      | lt => exact lv_if_lt hx hb hd ht (fun h => kk q (by rw [if_pos (by simp [cmpI, h])]; exact hq)) (fun h => kk _ (by rw [if_neg (by simp only [cmpI, decide_eq_true_eq]; exact h)]; exact hf))
      | ge => exact lv_if_ge hx hb hd ht (fun h => kk q (by rw [if_pos (by simp only [cmpI, decide_eq_true_eq]; exact h)]; exact hq)) (fun h => kk _ (by rw [if_neg (by simp only [cmpI, decide_eq_true_eq]; exact h)]; exact hf))
      | gt => exact lv_if_gt hx hb hd ht (fun h => kk q (by rw [if_pos (by simp only [cmpI, decide_eq_true_eq]; exact h)]; exact hq)) (fun h => kk _ (by rw [if_neg (by simp only [cmpI, decide_eq_true_eq]; exact h)]; exact hf))
      | le => exact lv_if_le hx hb hd ht (fun h => kk q (by rw [if_pos (by simp only [cmpI, decide_eq_true_eq]; exact h)]; exact hq)) (fun h => kk _ (by rw [if_neg (by simp only [cmpI, decide_eq_true_eq]; exact h)]; exact hf))
    · cases hst
  case h_3 cn off =>
    dsimp only at hI
    simp only [Bool.and_eq_true, decide_eq_true_eq] at hI
    obtain ⟨⟨rfl, hf⟩, hj⟩ := hI
    obtain ⟨q, hq, ht⟩ := jump_of hj
    have hf := fall_of hf
    split at hst
    · cases hst
      cases cn with
      | eq => exact lv_icmp_eq hx hb hd ht (fun h => kk q (by rw [if_pos (by simp [cmpI, h])]; exact hq)) (fun h => kk _ (by rw [if_neg (by simp [cmpI, h])]; exact hf))
      | ne => exact lv_icmp_ne hx hb hd ht (fun h => kk q (by rw [if_pos (by simp [cmpI, h])]; exact hq)) (fun h => kk _ (by rw [if_neg (by simp [cmpI]; simpa using h)]; exact hf))
      | lt => exact lv_icmp_lt hx hb hd ht (fun h => kk q (by rw [if_pos (by simp [cmpI, h])]; exact hq)) (fun h => kk _ (by rw [if_neg (by simp only [cmpI, decide_eq_true_eq]; exact h)]; exact hf))
      | ge => exact lv_icmp_ge hx hb hd ht (fun h => kk q (by rw [if_pos (by simp only [cmpI, decide_eq_true_eq]; exact h)]; exact hq)) (fun h => kk _ (by rw [if_neg (by simp only [cmpI, decide_eq_true_eq]; exact h)]; exact hf))
      | gt => exact lv_icmp_gt hx hb hd ht (fun h => kk q (by rw [if_pos (by simp only [cmpI, decide_eq_true_eq]; exact h)]; exact hq)) (fun h => kk _ (by rw [if_neg (by simp only [cmpI, decide_eq_true_eq]; exact h)]; exact hf))
      | le => exact lv_icmp_le hx hb hd ht (fun h => kk q (by rw [if_pos (by simp only [cmpI, decide_eq_true_eq]; exact h)]; exact hq)) (fun h => kk _ (by rw [if_neg (by simp only [cmpI, decide_eq_true_eq]; exact h)]; exact hf))
    · cases hst
  case h_4 =>
    dsimp only at hI
    simp only [Bool.and_eq_true, decide_eq_true_eq] at hI
    obtain ⟨⟨rfl, hf⟩, hj⟩ := hI
    obtain ⟨q, hq, ht⟩ := jump_of hj
    have hf := fall_of hf
    split at hst
    · cases hst
      exact lv_ifnull hx hb hd (kk _ hf)
    · cases hst
      exact lv_ifnullN hx hb hd ht (kk _ hq)
    · cases hst
  case h_5 =>
    dsimp only at hI
    simp only [Bool.and_eq_true, decide_eq_true_eq] at hI
    obtain ⟨⟨rfl, hf⟩, hj⟩ := hI
    obtain ⟨q, hq, ht⟩ := jump_of hj
    have hf := fall_of hf
    split at hst
    · cases hst
      exact lv_ifnonnull hx hb hd ht (kk _ hq)
    · cases hst
      exact lv_ifnonnullN hx hb hd (kk _ hf)
    · cases hst
  case h_6 => cases hst
theorem snD {mi bp j a b : Nat} {ins : Instr} {x : Int32} {y : Int64} {ts hs : List Nat} {st st' : List Value} {L : Array Slot} (hx : p.tables.exec = Jvm.exec) (hb : c.code = byM mi) (ck : ckE mi (bp, ins, x, y, j, a, b, ts) hs = true) (hst : stepD ins st = some st')
    (kk : ∀ (bq : Nat), bpc mi j = some bq → W p l e R s m args below meth c H locs cells slots Q (F0 m bq L (st'.map (vz ρ)))) : W p l e R s m args below meth c H locs cells slots Q (F0 m bp L (st.map (vz ρ))) := by
  obtain ⟨n, hd, hI⟩ := ckE_dec ck
  unfold stepD at hst
  unfold ckI at hI
  split at hst
  case h_1 =>
    dsimp only at hI
    simp only [Bool.and_eq_true, decide_eq_true_eq] at hI
    obtain ⟨rfl, hf⟩ := hI
    split at hst
    · split at hst
      · cases hst
      · rename_i hz
        cases hst
        exact lv_idiv hx hb hd hz (kk _ (fall_of hf))
    · cases hst
  case h_2 =>
    dsimp only at hI
    simp only [Bool.and_eq_true, decide_eq_true_eq] at hI
    obtain ⟨rfl, hf⟩ := hI
    split at hst
    · split at hst
      · cases hst
      · rename_i hz
        cases hst
        exact lv_irem hx hb hd hz (kk _ (fall_of hf))
    · cases hst
  case h_3 => cases hst
theorem snW {mi bp j a b t : Nat} {ins : Instr} {x : Int32} {y : Int64} {ts hs : List Nat} {st st' : List Value} {L : Array Slot} (hx : p.tables.exec = Jvm.exec) (hb : c.code = byM mi) (ck : ckE mi (bp, ins, x, y, j, a, b, ts) hs = true) (hst : stepW ins ts st = some (t, st'))
    (kk : ∀ (bq : Nat), bpc mi t = some bq → W p l e R s m args below meth c H locs cells slots Q (F0 m bq L (st'.map (vz ρ)))) : W p l e R s m args below meth c H locs cells slots Q (F0 m bp L (st.map (vz ρ))) := by
  obtain ⟨n, hd, hI⟩ := ckE_dec ck
  unfold stepW at hst
  unfold ckI at hI
  split at hst
  case h_1 df lo hi offs =>
    dsimp only at hI
    simp only [Bool.and_eq_true, decide_eq_true_eq, List.all_eq_true, List.mem_range] at hI
    obtain ⟨⟨⟨hlen, hdf⟩, hall⟩, hhi⟩ := hI
    split at hst
    · rename_i v st0
      rw [Option.map_eq_some_iff] at hst
      obtain ⟨t', ht', he⟩ := hst
      cases he
      split at ht'
      · rename_i hout
        obtain ⟨q, hq, htt⟩ := jump_of hdf
        rw [List.getD_eq_getElem?_getD, ht'] at hq
        exact lv_tableOut hx hb hd hout htt (kk q hq)
      · rename_i hin
        have h1 : ¬ v.toInt < lo := fun h => hin (Or.inl h)
        have h2 : ¬ hi < v.toInt := fun h => hin (Or.inr h)
        have hk : (v.toInt - lo).toNat < offs.size := by omega
        obtain ⟨q, hq, htt⟩ := jump_of (hall _ hk)
        rw [List.getD_eq_getElem?_getD, ht'] at hq
        refine lv_tableIn (off := offs.toList.getD (v.toInt - lo).toNat 0) hx hb hd h1 h2 ?_ htt (kk q hq)
        rw [List.getD_eq_getElem?_getD, Array.getElem?_toList, Array.getElem?_eq_getElem hk]
        rfl
    · cases hst
  case h_2 => cases hst
end
