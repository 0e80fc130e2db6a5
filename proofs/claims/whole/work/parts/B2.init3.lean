/-! CONSTRUCTORS, 3 -/
section
variable {h : AH} {o : Nat}
def meL (o : Nat) : List AC := [objA 3 [.ref (o + 1), .ref (o + 2), .ref (o + 3), .ref (o + 4)], longs 120 z64, longs 120 z64, longs 120 z64, longs 120 z64]
theorem sp_ME_init (d : Nat) (ho : h.1.1 = o) (o3 : 3 ≤ o) : Cl d 1 [.ref o] (alL h [objA 3 (dvl 3)]) none (alL h (meL o)) := by
  have kC9 := co_ME_init
  refine Cl_of kC9 rfl rfl ?_
  repeat (refine R_s kC9 rfl rfl ?_)
  refine R_obi kC9 rfl (Nat.le_of_ble_eq_true rfl) ?_
  repeat (refine R_s kC9 rfl rfl ?_)
  refine A_nwl ho kC9 rfl (n := 120) rfl (by omega) (r := o + 1) rfl ?_
  refine A_put ho o3 kC9 rfl 0 rfl rfl (Nat.le_of_ble_eq_true rfl) rfl rfl ?_
  repeat (refine R_s kC9 rfl rfl ?_)
  refine A_nwl ho kC9 rfl (n := 120) rfl (by omega) (r := o + 2) rfl ?_
  refine A_put ho o3 kC9 rfl 0 rfl rfl (Nat.le_of_ble_eq_true rfl) rfl rfl ?_
  repeat (refine R_s kC9 rfl rfl ?_)
  refine A_nwl ho kC9 rfl (n := 120) rfl (by omega) (r := o + 3) rfl ?_
  refine A_put ho o3 kC9 rfl 0 rfl rfl (Nat.le_of_ble_eq_true rfl) rfl rfl ?_
  repeat (refine R_s kC9 rfl rfl ?_)
  refine A_nwl ho kC9 rfl (n := 120) rfl (by omega) (r := o + 4) rfl ?_
  refine A_put ho o3 kC9 rfl 0 rfl rfl (Nat.le_of_ble_eq_true rfl) rfl rfl ?_
  exact R_rv kC9 rfl ⟨rfl, rfl⟩
def teL (o : Nat) : List AC := [objA 7 [.int 0, .ref (o + 1)], bytesA 100 z32]
theorem sp_TE_init (d : Nat) (ho : h.1.1 = o) (o3 : 3 ≤ o) : Cl d 20 [.ref o] (alL h [objA 7 (dvl 7)]) none (alL h (teL o)) := by
  have kC9 := co_TE_init
  refine Cl_of kC9 rfl rfl ?_
  repeat (refine R_s kC9 rfl rfl ?_)
  refine R_obi kC9 rfl (Nat.le_of_ble_eq_true rfl) ?_
  repeat (refine R_s kC9 rfl rfl ?_)
  refine A_nwb ho kC9 rfl (n := 100) rfl (by omega) (r := o + 1) rfl ?_
  refine A_put ho o3 kC9 rfl 0 rfl rfl (Nat.le_of_ble_eq_true rfl) rfl rfl ?_
  exact R_rv kC9 rfl ⟨rfl, rfl⟩
def taL (o : Nat) : List AC := [objA 6 [.int (-1), .ref (o + 1), .int 0], longs 60 z64]
theorem sp_TA_init (d : Nat) (ho : h.1.1 = o) (o3 : 3 ≤ o) : Cl d 14 [.ref o] (alL h [objA 6 (dvl 6)]) none (alL h (taL o)) := by
  have kC9 := co_TA_init
  refine Cl_of kC9 rfl rfl ?_
  repeat (refine R_s kC9 rfl rfl ?_)
  refine R_obi kC9 rfl (Nat.le_of_ble_eq_true rfl) ?_
  repeat (refine R_s kC9 rfl rfl ?_)
  refine A_put ho o3 kC9 rfl 0 rfl rfl (Nat.le_of_ble_eq_true rfl) rfl rfl ?_
  repeat (refine R_s kC9 rfl rfl ?_)
  refine A_nwl ho kC9 rfl (n := 60) rfl (by omega) (r := o + 1) rfl ?_
  refine A_put ho o3 kC9 rfl 0 rfl rfl (Nat.le_of_ble_eq_true rfl) rfl rfl ?_
  exact R_rv kC9 rfl ⟨rfl, rfl⟩
def boL (o fam : Nat) : List AC := [objA 1 [.ref fam, .int 0, .int 0, .int 0, .int 0, .ref (o + 1), .ref (o + 2), .ref (o + 3), .ref (o + 4), .ref (o + 5), .ref (o + 6), .ref (o + 7), .ref (o + 8), .ref (o + 9)], ints 5 z32, ints 32 z32, ints 120 z32, ints 120 z32, ints 120 z32, ints 480 z32, ints 120 z32, ints 120 z32] ++ meL (o + 9)
theorem sp_BO_init (d : Nat) (ho : h.1.1 = o) (o3 : 3 ≤ o) (fam : Nat) : Cl (d + 1) 60 [.ref o, .ref fam] (alL h [objA 1 (dvl 1)]) none (alL h (boL o fam)) := by
  have kC9 := co_BO_init
  refine Cl_of kC9 rfl rfl ?_
  repeat (refine R_s kC9 rfl rfl ?_)
  refine R_obi kC9 rfl (Nat.le_of_ble_eq_true rfl) ?_
  repeat (refine R_s kC9 rfl rfl ?_)
  refine A_nwi ho kC9 rfl (n := 5) rfl (by omega) (r := o + 1) rfl ?_
  refine A_put ho o3 kC9 rfl 0 rfl rfl (Nat.le_of_ble_eq_true rfl) rfl rfl ?_
  repeat (refine R_s kC9 rfl rfl ?_)
  refine A_nwi ho kC9 rfl (n := 32) rfl (by omega) (r := o + 2) rfl ?_
  refine A_put ho o3 kC9 rfl 0 rfl rfl (Nat.le_of_ble_eq_true rfl) rfl rfl ?_
  repeat (refine R_s kC9 rfl rfl ?_)
  refine A_nwi ho kC9 rfl (n := 120) rfl (by omega) (r := o + 3) rfl ?_
  refine A_put ho o3 kC9 rfl 0 rfl rfl (Nat.le_of_ble_eq_true rfl) rfl rfl ?_
  repeat (refine R_s kC9 rfl rfl ?_)
  refine A_nwi ho kC9 rfl (n := 120) rfl (by omega) (r := o + 4) rfl ?_
  refine A_put ho o3 kC9 rfl 0 rfl rfl (Nat.le_of_ble_eq_true rfl) rfl rfl ?_
  repeat (refine R_s kC9 rfl rfl ?_)
  refine A_nwi ho kC9 rfl (n := 120) rfl (by omega) (r := o + 5) rfl ?_
  refine A_put ho o3 kC9 rfl 0 rfl rfl (Nat.le_of_ble_eq_true rfl) rfl rfl ?_
  repeat (refine R_s kC9 rfl rfl ?_)
  refine A_nwi ho kC9 rfl (n := 480) rfl (by omega) (r := o + 6) rfl ?_
  refine A_put ho o3 kC9 rfl 0 rfl rfl (Nat.le_of_ble_eq_true rfl) rfl rfl ?_
  repeat (refine R_s kC9 rfl rfl ?_)
  refine A_nwi ho kC9 rfl (n := 120) rfl (by omega) (r := o + 7) rfl ?_
  refine A_put ho o3 kC9 rfl 0 rfl rfl (Nat.le_of_ble_eq_true rfl) rfl rfl ?_
  repeat (refine R_s kC9 rfl rfl ?_)
  refine A_nwi ho kC9 rfl (n := 120) rfl (by omega) (r := o + 8) rfl ?_
  refine A_put ho o3 kC9 rfl 0 rfl rfl (Nat.le_of_ble_eq_true rfl) rfl rfl ?_
  repeat (refine R_s kC9 rfl rfl ?_)
  refine A_new ho kC9 rfl (r := o + 9) rfl ?_
  repeat (refine R_s kC9 rfl rfl ?_)
  refine A_ini ho kC9 rfl rfl rfl rfl (p := [objA 1 _, ints 5 z32, ints 32 z32, ints 120 z32, ints 120 z32, ints 120 z32, ints 480 z32, ints 120 z32, ints 120 z32]) rfl (fun h2 e2 => sp_ME_init d e2 (by omega)) rfl ?_
  refine A_put ho o3 kC9 rfl 0 rfl rfl (Nat.le_of_ble_eq_true rfl) rfl rfl ?_
  repeat (refine R_s kC9 rfl rfl ?_)
  refine A_put ho o3 kC9 rfl 0 rfl rfl (Nat.le_of_ble_eq_true rfl) rfl rfl ?_
  exact R_rv kC9 rfl ⟨rfl, rfl⟩
end
