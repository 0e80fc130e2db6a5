/-! CONSTRUCTORS, 5: the reference -/
section
variable {h : AH}
def srF : Nat → (Nat → Int32)
  | 0 => z32
  | k + 1 => upd (srF k) k (-1)
def moX : AC := mob 0 0 0 0 0 0
def moL (G : Nat → Int32) (k : Nat) : List AC := [moX, ints 106 G, ints 106 z32, ints 106 z32, ints 5 z32, ints 100 z32, ints 5 z32, ints 33 z32, ints 5 z32, ints 120 z32, ints 600 z32, ints 480 z32, ints 120 z32, ints 120 z32, ints 5 z32, ints 5 z32, ints 6 (srF k), ints 6 z32, longs 360 z64]
theorem sp_MO_init (d : Nat) (ho : h.1.1 = 76) : ∃ G, (G 0 = nI 4 ∧ (∀ s, s < 32 → G (1 + s) = b2i (bt (makeS 4 0 0) s)) ∧ (∀ q, q < 25 → G (33 + q) = nI 0) ∧ G 58 = nI 0 ∧ ∀ q, 59 ≤ q → G q = 0) ∧ Cl (d + 5) 149 [.ref 76] (alL h [objA 8 (dvl 8)]) none (alL h (moL G 6)) := by
  have o3 : (3 : Nat) ≤ 76 := by omega
  have kC9 := co_MO_init
  have hb : (alL h (moL z32 0)).2 76 = mob 0 0 0 0 0 0 := alL_at (i := 0) ho rfl
  have hg : (alL h (moL z32 0)).2 77 = ints 106 z32 := alL_at (i := 1) ho rfl
  obtain ⟨G, hG, hcl⟩ := sp_MO_begins d hb hg (m := 4) (by omega)
  have eG : upH (alL h (moL z32 0)) 77 (ints 106 G) = alL h (moL G 0) := upH_alL (i := 1) (c := ints 106 z32) ho rfl rfl
  rw [eG] at hcl
  refine ⟨G, hG, ?_⟩
  refine Cl_of kC9 rfl rfl ?_
  repeat (refine R_s kC9 rfl rfl ?_)
  refine R_obi kC9 rfl (Nat.le_of_ble_eq_true rfl) ?_
  repeat (refine R_s kC9 rfl rfl ?_)
  refine A_nwi ho kC9 rfl (n := 106) rfl (by omega) (r := 77) rfl ?_
  refine A_put ho o3 kC9 rfl 0 rfl rfl (Nat.le_of_ble_eq_true rfl) rfl rfl ?_
  repeat (refine R_s kC9 rfl rfl ?_)
  refine A_nwi ho kC9 rfl (n := 106) rfl (by omega) (r := 78) rfl ?_
  refine A_put ho o3 kC9 rfl 0 rfl rfl (Nat.le_of_ble_eq_true rfl) rfl rfl ?_
  repeat (refine R_s kC9 rfl rfl ?_)
  refine A_nwi ho kC9 rfl (n := 106) rfl (by omega) (r := 79) rfl ?_
  refine A_put ho o3 kC9 rfl 0 rfl rfl (Nat.le_of_ble_eq_true rfl) rfl rfl ?_
  repeat (refine R_s kC9 rfl rfl ?_)
  refine A_nwi ho kC9 rfl (n := 5) rfl (by omega) (r := 80) rfl ?_
  refine A_put ho o3 kC9 rfl 0 rfl rfl (Nat.le_of_ble_eq_true rfl) rfl rfl ?_
  repeat (refine R_s kC9 rfl rfl ?_)
  refine A_nwi ho kC9 rfl (n := 100) rfl (by omega) (r := 81) rfl ?_
  refine A_put ho o3 kC9 rfl 0 rfl rfl (Nat.le_of_ble_eq_true rfl) rfl rfl ?_
  repeat (refine R_s kC9 rfl rfl ?_)
  refine A_nwi ho kC9 rfl (n := 5) rfl (by omega) (r := 82) rfl ?_
  refine A_put ho o3 kC9 rfl 0 rfl rfl (Nat.le_of_ble_eq_true rfl) rfl rfl ?_
  repeat (refine R_s kC9 rfl rfl ?_)
  refine A_nwi ho kC9 rfl (n := 33) rfl (by omega) (r := 83) rfl ?_
  refine A_put ho o3 kC9 rfl 0 rfl rfl (Nat.le_of_ble_eq_true rfl) rfl rfl ?_
  repeat (refine R_s kC9 rfl rfl ?_)
  refine A_nwi ho kC9 rfl (n := 5) rfl (by omega) (r := 84) rfl ?_
  refine A_put ho o3 kC9 rfl 0 rfl rfl (Nat.le_of_ble_eq_true rfl) rfl rfl ?_
  repeat (refine R_s kC9 rfl rfl ?_)
  refine A_nwi ho kC9 rfl (n := 120) rfl (by omega) (r := 85) rfl ?_
  refine A_put ho o3 kC9 rfl 0 rfl rfl (Nat.le_of_ble_eq_true rfl) rfl rfl ?_
  repeat (refine R_s kC9 rfl rfl ?_)
  refine A_nwi ho kC9 rfl (n := 600) rfl (by omega) (r := 86) rfl ?_
  refine A_put ho o3 kC9 rfl 0 rfl rfl (Nat.le_of_ble_eq_true rfl) rfl rfl ?_
  repeat (refine R_s kC9 rfl rfl ?_)
  refine A_nwi ho kC9 rfl (n := 480) rfl (by omega) (r := 87) rfl ?_
  refine A_put ho o3 kC9 rfl 0 rfl rfl (Nat.le_of_ble_eq_true rfl) rfl rfl ?_
  repeat (refine R_s kC9 rfl rfl ?_)
  refine A_nwi ho kC9 rfl (n := 120) rfl (by omega) (r := 88) rfl ?_
  refine A_put ho o3 kC9 rfl 0 rfl rfl (Nat.le_of_ble_eq_true rfl) rfl rfl ?_
  repeat (refine R_s kC9 rfl rfl ?_)
  refine A_nwi ho kC9 rfl (n := 120) rfl (by omega) (r := 89) rfl ?_
  refine A_put ho o3 kC9 rfl 0 rfl rfl (Nat.le_of_ble_eq_true rfl) rfl rfl ?_
  repeat (refine R_s kC9 rfl rfl ?_)
  refine A_nwi ho kC9 rfl (n := 5) rfl (by omega) (r := 90) rfl ?_
  refine A_put ho o3 kC9 rfl 0 rfl rfl (Nat.le_of_ble_eq_true rfl) rfl rfl ?_
  repeat (refine R_s kC9 rfl rfl ?_)
  refine A_nwi ho kC9 rfl (n := 5) rfl (by omega) (r := 91) rfl ?_
  refine A_put ho o3 kC9 rfl 0 rfl rfl (Nat.le_of_ble_eq_true rfl) rfl rfl ?_
  repeat (refine R_s kC9 rfl rfl ?_)
  refine A_nwi ho kC9 rfl (n := 6) rfl (by omega) (r := 92) rfl ?_
  refine A_put ho o3 kC9 rfl 0 rfl rfl (Nat.le_of_ble_eq_true rfl) rfl rfl ?_
  repeat (refine R_s kC9 rfl rfl ?_)
  refine A_nwi ho kC9 rfl (n := 6) rfl (by omega) (r := 93) rfl ?_
  refine A_put ho o3 kC9 rfl 0 rfl rfl (Nat.le_of_ble_eq_true rfl) rfl rfl ?_
  repeat (refine R_s kC9 rfl rfl ?_)
  refine A_nwl ho kC9 rfl (n := 360) rfl (by omega) (r := 94) rfl ?_
  refine A_put ho o3 kC9 rfl 0 rfl rfl (Nat.le_of_ble_eq_true rfl) rfl rfl ?_
  repeat (refine R_s kC9 rfl rfl ?_)
  refine (show R (d + 5) 149 76 [some (.ref 76), none] [.int (nI 4), .ref 76] (alL h (moL z32 0)) _ from ?_)
  refine R_cv kC9 rfl rfl rfl rfl hb o3 hcl ?_
  iterate 2 (refine R_s kC9 rfl rfl ?_)
  have key : ∀ m k, k + m = 6 → R (d + 5) 149 79 [some (.ref 76), some (.int (nI k))] [] (alL h (moL G k)) (fun r2 h2 => r2 = none ∧ h2 = alL h (moL G 6)) := by
    intro m
    induction m with
    | zero =>
      intro k hk
      obtain rfl : k = 6 := by omega
      repeat (refine R_s kC9 rfl rfl ?_)
      refine R_ge kC9 rfl rfl rfl (by omega) (by omega) (fun _ => ?_) (fun hc => absurd hc (by omega))
      exact R_rv kC9 rfl ⟨rfl, rfl⟩
    | succ m ih =>
      intro k hk
      have k6 : k < 6 := by omega
      repeat (refine R_s kC9 rfl rfl ?_)
      refine R_ge kC9 rfl rfl rfl (by omega) (by omega) (fun hc => absurd hc (by omega)) (fun _ => ?_)
      repeat (refine R_s kC9 rfl rfl ?_)
      refine A_get ho kC9 rfl 0 rfl (show _ = some moX from rfl) rfl ?_
      repeat (refine R_s kC9 rfl rfl ?_)
      refine A_ist ho o3 kC9 rfl 16 rfl rfl rfl k6 (by omega) rfl ?_
      repeat (refine R_s kC9 rfl rfl ?_)
      refine R_g kC9 rfl ?_
      have := ih (k + 1) (by omega)
      rw [← nI_add] at this
      exact this
  exact key 6 0 (by omega)
end
