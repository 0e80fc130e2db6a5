/-! THE REFERENCE, 33: isSeen -/
noncomputable def seenB (n : Nat) (S : Int32) (x : Int32 × Int32) : Bool := decide (nI (lenN (allN n S) x.1.toNatClampNeg) = x.2)
section
variable {h : AH} {k fed pl le fi : Int32} {G : Nat → Int32} {n : Nat} {S : Int32} {z : ZT}
theorem lp_isSeen (d : Nat) (hm : mCel h k fed pl le fi G z) (hz : caZ n S z) {se : List (Int32 × Int32)} (hse : rowsG G 63 se) (hl : se.length ≤ 4) (hin : ∀ x ∈ se, ∃ j m, j ≤ 4 ∧ m ≤ 999 ∧ x = (nI j, nI m)) : ∀ (m i : Nat) (b : Bool), i + m = se.length → b = (se.take i).all (seenB n S) → R d 227 6 [some (.ref 76), some (.int (b2i b)), some (.int (nI i))] [] h (fun r2 h2 => r2 = some (.int (b2i (se.all (seenB n S)))) ∧ h2 = h) := by
  have kC9 := co_MO_isSeen
  have ho := hm.1
  have hg := hm.2.1
  have hns := hm.2.2.2.2.1
  intro m
  induction m with
  | zero =>
    intro i b hi hb
    rw [List.take_of_length_le (by omega)] at hb
    repeat (refine R_s kC9 rfl rfl ?_)
    refine R_get kC9 rfl (ho) rfl ?_
    repeat (refine R_s kC9 rfl rfl ?_)
    refine R_ild kC9 rfl (hg) (rfl) (by decide) (by decide) ?_
    rw [hse.1]
    refine R_ge kC9 rfl (rfl) (rfl) (by omega) (by omega) (fun hc => ?_) (fun hc => ?_)
    · repeat (refine R_s kC9 rfl rfl ?_)
      rw [hb]
      exact R_rb kC9 rfl ⟨rfl, rfl⟩
    · omega
  | succ m ih =>
    intro i b hi hb
    repeat (refine R_s kC9 rfl rfl ?_)
    refine R_get kC9 rfl (ho) rfl ?_
    repeat (refine R_s kC9 rfl rfl ?_)
    refine R_ild kC9 rfl (hg) (rfl) (by decide) (by decide) ?_
    rw [hse.1]
    refine R_ge kC9 rfl (rfl) (rfl) (by omega) (by omega) (fun hc => ?_) (fun hc => ?_)
    · omega
    · obtain ⟨x, hx⟩ : ∃ x, se[i]? = some x := ⟨se[i], List.getElem?_eq_getElem hc⟩
      obtain ⟨j, m', j4, _, rfl⟩ := hin x (List.mem_of_getElem? hx)
      have hh := hse.2 i _ hx
      have goon : ∀ c : Bool, c = seenB n S (nI j, nI m') → R d 227 36 [some (.ref 76), some (.int (b2i b)), some (.int (nI i))] [.int (b2i c), .int (b2i b)] h (fun r2 h2 => r2 = some (.int (b2i (se.all (seenB n S)))) ∧ h2 = h) := by
        intro c hc2
        iterate 1 (refine R_s kC9 rfl rfl ?_)
        refine (show R d 227 37 _ [.int (b2i b &&& b2i c)] h _ from ?_)
        rw [b2i_and]
        repeat (refine R_s kC9 rfl rfl ?_)
        refine R_g kC9 rfl ?_
        refine (show R d 227 6 [some (.ref 76), some (.int (b2i (b && c))), some (.int (nI i + nI 1))] [] h _ from ?_)
        rw [nI_add]
        refine ih (i + 1) _ (by omega) ?_
        rw [List.take_succ, hx, List.all_append, hb, hc2]
        simp
      repeat (refine R_s kC9 rfl rfl ?_)
      refine R_get kC9 rfl (ho) rfl ?_
      repeat (refine R_s kC9 rfl rfl ?_)
      refine R_get kC9 rfl (ho) rfl ?_
      repeat (refine R_s kC9 rfl rfl ?_)
      refine R_ild kC9 rfl hg (k := 63 + 1 + 2 * i) (show nI 64 + nI 2 * nI i = _ by rw [pk_mul, nI_add]) (by omega) (by decide) ?_
      rw [hh.1]
      refine R_ild kC9 rfl (hns) (rfl) (by omega) (by decide) ?_
      rw [hz.2.1 j (by omega)]
      repeat (refine R_s kC9 rfl rfl ?_)
      refine R_get kC9 rfl (ho) rfl ?_
      repeat (refine R_s kC9 rfl rfl ?_)
      refine R_ild kC9 rfl hg (k := 63 + 2 + 2 * i) (show nI 65 + nI 2 * nI i = _ by rw [pk_mul, nI_add]) (by omega) (by decide) ?_
      rw [hh.2]
      refine Rr_ne kC9 rfl (fun q => ?_) (fun q => ?_)
      · iterate 1 (refine R_s kC9 rfl rfl ?_)
        exact goon false (by unfold seenB; dsimp only; rw [nI_clamp (by omega), decide_eq_false q])
      · iterate 1 (refine R_s kC9 rfl rfl ?_)
        refine R_g kC9 rfl ?_
        exact goon true (by unfold seenB; dsimp only; rw [nI_clamp (by omega), decide_eq_true q])
theorem sp_MO_isSeen (d : Nat) (hm : mCel h k fed pl le fi G z) (hn : n ≤ 5) (hn2 : 2 ≤ n) (h0 : G 0 = nI n) (hS : ∀ s, s < 32 → G (1 + s) = b2i (bt S s)) (hb : c120 n S) (hI : caI z) {se : List (Int32 × Int32)} (hse : rowsG G 63 se) (hl : se.length ≤ 4) (hin : ∀ x ∈ se, ∃ j m, j ≤ 4 ∧ m ≤ 999 ∧ x = (nI j, nI m)) : ∃ z' h', caZ n S z' ∧ mCel h' k fed pl le fi G z' ∧ frm h h' ∧ Cl (d + 8) 227 [.ref 76] h (some (.int (b2i (se.all (seenB n S))))) h' := by
  obtain ⟨z', h', hz, hm', hf, hcl⟩ := st_finds d hm hn hn2 h0 hS hb hI
  refine ⟨z', h', hz, hm', hf, ?_⟩
  have ho := hm.1
  have kC9 := co_MO_isSeen
  refine Cl_of kC9 rfl rfl ?_
  repeat (refine R_s kC9 rfl rfl ?_)
  refine R_cv kC9 rfl rfl rfl rfl ho (by decide) hcl ?_
  iterate 4 (refine R_s kC9 rfl rfl ?_)
  exact lp_isSeen (d + 8) hm' hz hse hl hin se.length 0 true (by omega) rfl
end
