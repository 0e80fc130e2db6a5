/-! CONSTRUCTORS, 2 -/
section
variable {h : AH} {o : Nat}
def z32 : Nat → Int32 := fun _ => 0
def z64 : Nat → Int64 := fun _ => 0
def roL (o m : Nat) : List AC := [objA 4 [.int 0, .ref (o + 1), .ref (o + 2)], ints m z32, ints m z32]
theorem sp_RO_init (d : Nat) (ho : h.1.1 = o) (o3 : 3 ≤ o) {m : Nat} (hm : m < 1000) : Cl d 5 [.ref o, .int (nI m)] (alL h [objA 4 (dvl 4)]) none (alL h (roL o m)) := by
  have kC9 := co_RO_init
  refine Cl_of kC9 rfl rfl ?_
  have mx : (if nI m < nI 0 then nI 0 else nI m) = nI m := by rw [if_neg (by rw [Int32.lt_iff_toInt_lt, nI_toInt (by omega), nI_toInt (by omega)]; omega)]
  repeat (refine R_s kC9 rfl rfl ?_)
  refine R_obi kC9 rfl (Nat.le_of_ble_eq_true rfl) ?_
  repeat (refine R_s kC9 rfl rfl ?_)
  refine R_max kC9 rfl (Nat.le_of_ble_eq_true rfl) ?_
  refine A_nwi ho kC9 rfl mx (by omega) (r := o + 1) rfl ?_
  refine A_put ho o3 kC9 rfl 0 rfl rfl (Nat.le_of_ble_eq_true rfl) rfl rfl ?_
  repeat (refine R_s kC9 rfl rfl ?_)
  refine R_max kC9 rfl (Nat.le_of_ble_eq_true rfl) ?_
  refine A_nwi ho kC9 rfl mx (by omega) (r := o + 2) rfl ?_
  refine A_put ho o3 kC9 rfl 0 rfl rfl (Nat.le_of_ble_eq_true rfl) rfl rfl ?_
  exact R_rv kC9 rfl ⟨rfl, rfl⟩
noncomputable def faL : AC := objA 2 [.int (nI 4), .int (makeS 4 0 0), .int 0]
theorem sp_FA_init (d : Nat) (ho : h.1.1 = o) (o3 : 3 ≤ o) : Cl (d + 4) 29 [.ref o] (alL h [objA 2 (dvl 2)]) none (alL h [faL]) := by
  have kC9 := co_FA_init
  refine Cl_of kC9 rfl rfl ?_
  repeat (refine R_s kC9 rfl rfl ?_)
  refine R_obi kC9 rfl (Nat.le_of_ble_eq_true rfl) ?_
  repeat (refine R_s kC9 rfl rfl ?_)
  have hF : FamC (alL h [objA 2 (dvl 2)]) o 0 0 0 := ⟨o3, alL_at (i := 0) ho rfl⟩
  refine R_cv kC9 rfl rfl rfl rfl hF.2 o3 (sp_FA_restart d hF (m := 4) (by omega)) ?_
  have e : faH (alL h [objA 2 (dvl 2)]) o 4 (makeS 4 0 0) 0 = alL h [faL] := upH_alL (i := 0) ho rfl rfl
  rw [e]
  exact R_rv kC9 rfl ⟨rfl, rfl⟩
noncomputable def seL (o : Nat) : List AC := [objA 5 [.ref (o + 1), .ref (o + 2), .ref (o + 5), .ref (o + 8), .ref (o + 11)], faL] ++ roL (o + 2) 4 ++ roL (o + 5) 4 ++ roL (o + 8) 8 ++ roL (o + 11) 8
theorem sp_SE_init (d : Nat) (ho : h.1.1 = o) (o3 : 3 ≤ o) : Cl (d + 5) 57 [.ref o] (alL h [objA 5 (dvl 5)]) none (alL h (seL o)) := by
  have kC9 := co_SE_init
  refine Cl_of kC9 rfl rfl ?_
  repeat (refine R_s kC9 rfl rfl ?_)
  refine R_obi kC9 rfl (Nat.le_of_ble_eq_true rfl) ?_
  repeat (refine R_s kC9 rfl rfl ?_)
  refine A_new ho kC9 rfl (r := o + 1) rfl ?_
  repeat (refine R_s kC9 rfl rfl ?_)
  refine A_ini ho kC9 rfl rfl rfl rfl (p := [objA 5 (dvl 5)]) rfl (fun h2 e2 => sp_FA_init d e2 (by omega)) rfl ?_
  refine A_put ho o3 kC9 rfl 0 rfl rfl (Nat.le_of_ble_eq_true rfl) rfl rfl ?_
  repeat (refine R_s kC9 rfl rfl ?_)
  refine A_new ho kC9 rfl (r := o + 2) rfl ?_
  repeat (refine R_s kC9 rfl rfl ?_)
  refine A_ini ho kC9 rfl rfl rfl rfl (p := [objA 5 _, faL]) rfl (fun h2 e2 => sp_RO_init (d + 4) (m := 4) e2 (by omega) (by omega)) rfl ?_
  refine A_put ho o3 kC9 rfl 0 rfl rfl (Nat.le_of_ble_eq_true rfl) rfl rfl ?_
  repeat (refine R_s kC9 rfl rfl ?_)
  refine A_new ho kC9 rfl (r := o + 5) rfl ?_
  repeat (refine R_s kC9 rfl rfl ?_)
  refine A_ini ho kC9 rfl rfl rfl rfl (p := [objA 5 _, faL] ++ roL (o + 2) 4) rfl (fun h2 e2 => sp_RO_init (d + 4) (m := 4) e2 (by omega) (by omega)) rfl ?_
  refine A_put ho o3 kC9 rfl 0 rfl rfl (Nat.le_of_ble_eq_true rfl) rfl rfl ?_
  repeat (refine R_s kC9 rfl rfl ?_)
  refine A_new ho kC9 rfl (r := o + 8) rfl ?_
  repeat (refine R_s kC9 rfl rfl ?_)
  refine A_ini ho kC9 rfl rfl rfl rfl (p := [objA 5 _, faL] ++ roL (o + 2) 4 ++ roL (o + 5) 4) rfl (fun h2 e2 => sp_RO_init (d + 4) (m := 8) e2 (by omega) (by omega)) rfl ?_
  refine A_put ho o3 kC9 rfl 0 rfl rfl (Nat.le_of_ble_eq_true rfl) rfl rfl ?_
  repeat (refine R_s kC9 rfl rfl ?_)
  refine A_new ho kC9 rfl (r := o + 11) rfl ?_
  repeat (refine R_s kC9 rfl rfl ?_)
  refine A_ini ho kC9 rfl rfl rfl rfl (p := [objA 5 _, faL] ++ roL (o + 2) 4 ++ roL (o + 5) 4 ++ roL (o + 8) 8) rfl (fun h2 e2 => sp_RO_init (d + 4) (m := 8) e2 (by omega) (by omega)) rfl ?_
  refine A_put ho o3 kC9 rfl 0 rfl rfl (Nat.le_of_ble_eq_true rfl) rfl rfl ?_
  exact R_rv kC9 rfl ⟨rfl, rfl⟩
end
