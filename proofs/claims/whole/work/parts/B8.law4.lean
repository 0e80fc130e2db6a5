/-! THE LAW, 4: its loop, its start -/
set_option maxRecDepth 10000
section
variable {c : Nat × Nat} {L : Nat} {xs : Nat → Int32}
theorem and63 (x : Int32) : ∃ k, k < 64 ∧ x &&& nI 63 = nI k := by
  refine ⟨tn (x &&& nI 63), ?_, (nI_tn _).symm⟩
  rw [tn_and]
  have : tn (nI 63) = 63 := tn_nI (by omega)
  rw [this]
  have := Nat.and_le_right (n := tn x) (m := 63)
  omega
def lwTs : List Nat := [912, 22, 39, 56, 73, 90, 127, 144, 161, 178, 185, 202, 229, 256, 273, 290, 307, 324, 351, 378, 405, 432, 459, 486, 503, 530, 537, 565, 593, 620, 637, 664, 671, 698, 705, 712, 729, 766, 827, 855]
theorem lw_ts {k : Nat} (hk : k < 64) : (if (nI k).toInt < 0 ∨ 38 < (nI k).toInt then lwTs[0]? else lwTs[((nI k).toInt - 0).toNat + 1]?) = some (if k < 39 then lwTs.getD (k + 1) 0 else 912) := by
  rw [nI_toInt (by omega)]
  by_cases h : k < 39
  · rw [if_neg (by omega), if_pos h, show ((k : Int) - 0).toNat = k by omega, List.getD_eq_getElem?_getD]
    have hl : k + 1 < lwTs.length := by show k + 1 < 40; omega
    rw [List.getElem?_eq_getElem hl]; rfl
  · rw [if_pos (by omega), if_neg h]; rfl
def lwQ (c : Nat × Nat) (L : Nat) (xs : Nat → Int32) : Option Value → AH → Prop := fun r h => r = some (.int 1) ∧ lwI c L xs h
theorem lw_case {h : AH} {i k : Nat} (hl : lwI c L xs h) (hL : L ≤ 3072) (hi : i + 6 ≤ L) (kk : ∀ h', lwI c L xs h' → R 60 248 912 (lwL i) [] h' (lwQ c L xs)) (hk : k < 39) : R 60 248 (lwTs.getD (k + 1) 0) (lwL i) [] h (lwQ c L xs) := by
  match k, hk with
  | 0, _ => exact lw_points hl hL hi kk
  | 1, _ => exact lw_make hl hL hi kk
  | 2, _ => exact lw_comes hl hL hi kk
  | 3, _ => exact lw_goes hl hL hi kk
  | 4, _ => exact lw_line hl hL hi kk
  | 5, _ => exact lw_choose hl hL hi kk
  | 6, _ => exact lw_drop hl hL hi kk
  | 7, _ => exact lw_feed hl hL hi kk
  | 8, _ => exact lw_read hl hL hi kk
  | 9, _ => exact lw_family hl hL hi kk
  | 10, _ => exact lw_of hl hL hi kk
  | 11, _ => exact lw_part hl hL hi kk
  | 12, _ => exact lw_told hl hL hi kk
  | 13, _ => exact lw_chosen hl hL hi kk
  | 14, _ => exact lw_nests hl hL hi kk
  | 15, _ => exact lw_risen hl hL hi kk
  | 16, _ => exact lw_at hl hL hi kk
  | 17, _ => exact lw_set hl hL hi kk
  | 18, _ => exact lw_flip hl hL hi kk
  | 19, _ => exact lw_corner hl hL hi kk
  | 20, _ => exact lw_steps hl hL hi kk
  | 21, _ => exact lw_face hl hL hi kk
  | 22, _ => exact lw_leads hl hL hi kk
  | 23, _ => exact lw_see hl hL hi kk
  | 24, _ => exact lw_fits hl hL hi kk
  | 25, _ => exact lw_odds hl hL hi kk
  | 26, _ => exact lw_mean hl hL hi kk
  | 27, _ => exact lw_event hl hL hi kk
  | 28, _ => exact lw_after hl hL hi kk
  | 29, _ => exact lw_book hl hL hi kk
  | 30, _ => exact lw_looked hl hL hi kk
  | 31, _ => exact lw_judge hl hL hi kk
  | 32, _ => exact lw_image hl hL hi kk
  | 33, _ => exact lw_undo hl hL hi kk
  | 34, _ => exact lw_count hl hL hi kk
  | 35, _ => exact lw_tape hl hL hi kk
  | 36, _ => exact lw_item hl hL hi kk
  | 37, _ => exact lw_peek hl hL hi kk
  | 38, _ => exact lw_shift hl hL hi kk
  | k + 39, hk => omega
theorem lw_loop (hL : L ≤ 3072) : ∀ (m i : Nat) (h : AH), L ≤ i + m → i ≤ L + 6 → lwI c L xs h → R 60 248 10 (lwL i) [] h (lwQ c L xs) := by
  have kC9 := co_LA_law
  intro m
  induction m with
  | zero =>
    intro i h hm hi hl
    obtain ⟨U, K, im, tx, T, hc, hx, rest⟩ := id hl
    repeat (refine R_s kC9 rfl rfl ?_)
    refine R_alen kC9 rfl hx (by omega) ?_
    repeat (refine R_s kC9 rfl rfl ?_)
    refine Rr_gt kC9 rfl (fun _ => ?_) (fun q => absurd ?_ q)
    · repeat (refine R_s kC9 rfl rfl ?_)
      exact R_rz kC9 rfl (Or.inr rfl) ⟨rfl, hl⟩
    · rw [Int32.lt_iff_toInt_lt, sub_ti (by omega) (by omega), nI_toInt (by omega)]
      omega
  | succ m ih =>
    intro i h hm hi hl
    obtain ⟨U, K, im, tx, T, hc, hx, rest⟩ := id hl
    repeat (refine R_s kC9 rfl rfl ?_)
    refine R_alen kC9 rfl hx (by omega) ?_
    repeat (refine R_s kC9 rfl rfl ?_)
    refine Rr_gt kC9 rfl (fun _ => ?_) (fun q => ?_)
    · repeat (refine R_s kC9 rfl rfl ?_)
      exact R_rz kC9 rfl (Or.inr rfl) ⟨rfl, hl⟩
    · rw [Int32.lt_iff_toInt_lt, sub_ti (by omega) (by omega), nI_toInt (by omega)] at q
      have hi6 : i + 6 ≤ L := by omega
      repeat (refine R_s kC9 rfl rfl ?_)
      refine R_ild kC9 rfl hx (k := i) rfl (by omega) (by omega) ?_
      repeat (refine R_s kC9 rfl rfl ?_)
      have fin : ∀ h', lwI c L xs h' → R 60 248 912 (lwL i) [] h' (lwQ c L xs) := by
        intro h' hl'
        repeat (refine R_s kC9 rfl rfl ?_)
        refine R_g kC9 rfl ?_
        have := ih (i + 6) h' (by omega) (by omega) hl'
        unfold lwL at this
        rw [← nI_add] at this
        exact this
      obtain ⟨k, k64, ek⟩ := and63 (xs i)
      refine R_sw kC9 rfl (t := if k < 39 then lwTs.getD (k + 1) 0 else 912) ?_ ?_
      · rw [ek]; exact lw_ts k64
      · by_cases h39 : k < 39
        · rw [if_pos h39]
          exact lw_case hl hL hi6 fin h39
        · rw [if_neg h39]
          exact fin h hl
end
