/-! CONSTRUCTORS, 4: the class -/
section
variable {h : AH}
noncomputable def nbA : List AC := [objA 0 (dvl 0)]
/-- the class's cells, without its own and the tapes -/
noncomputable def nbB : List AC := seL 4 ++ seL 18 ++ boL 32 5 ++ [faL] ++ boL 47 46 ++ teL 61
def tpV0 (k : Nat) (f : Nat → Option Nat) : Nat → Option Nat := va_up f k (some (64 + 2 * k))
def tpF : Nat → (Nat → Option Nat)
  | 0 => fun _ => none
  | k + 1 => va_up (tpF k) k (some (64 + 2 * k))
def taLs : Nat → List AC
  | 0 => []
  | k + 1 => taLs k ++ taL (64 + 2 * k)
def tpC (k : Nat) : AC := .inl (tpT, 6, .inr (.inr (.inr (.inr (tpF k)))))
def nbX : AC := objA 0 [.ref 4, .ref 18, .int 0, .ref 32, .ref 46, .ref 47, .ref 61, .ref 63]
noncomputable def nbL : List AC := [nbX] ++ nbB ++ [tpC 6] ++ taLs 6
theorem sp_NB_init (d : Nat) (ho : h.1.1 = 3) : Cl (d + 6) 92 [.ref 3] (alL h [objA 0 (dvl 0)]) none (alL h nbL) := by
  have kC9 := co_NB_init
  refine Cl_of kC9 rfl rfl ?_
  have o3 : (3 : Nat) ≤ 3 := Nat.le_refl 3
  repeat (refine R_s kC9 rfl rfl ?_)
  refine R_obi kC9 rfl (Nat.le_of_ble_eq_true rfl) ?_
  repeat (refine R_s kC9 rfl rfl ?_)
  refine A_new ho kC9 rfl (r := 4) rfl ?_
  repeat (refine R_s kC9 rfl rfl ?_)
  refine A_ini ho kC9 rfl rfl rfl rfl (p := [objA 0 _]) rfl (fun h2 e2 => sp_SE_init d e2 (by omega)) rfl ?_
  refine A_put ho o3 kC9 rfl 0 rfl rfl (Nat.le_of_ble_eq_true rfl) rfl rfl ?_
  repeat (refine R_s kC9 rfl rfl ?_)
  refine A_new ho kC9 rfl (r := 18) rfl ?_
  repeat (refine R_s kC9 rfl rfl ?_)
  refine A_ini ho kC9 rfl rfl rfl rfl (p := [objA 0 _] ++ seL 4) rfl (fun h2 e2 => sp_SE_init d e2 (by omega)) rfl ?_
  refine A_put ho o3 kC9 rfl 0 rfl rfl (Nat.le_of_ble_eq_true rfl) rfl rfl ?_
  repeat (refine R_s kC9 rfl rfl ?_)
  refine A_new ho kC9 rfl (r := 32) rfl ?_
  repeat (refine R_s kC9 rfl rfl ?_)
  refine A_get ho kC9 rfl 0 rfl rfl rfl ?_
  refine A_get ho kC9 rfl 1 rfl rfl rfl ?_
  refine A_ini ho kC9 rfl rfl rfl rfl (p := [objA 0 _] ++ seL 4 ++ seL 18) rfl (fun h2 e2 => sp_BO_init (d + 4) e2 (by omega) 5) rfl ?_
  refine A_put ho o3 kC9 rfl 0 rfl rfl (Nat.le_of_ble_eq_true rfl) rfl rfl ?_
  repeat (refine R_s kC9 rfl rfl ?_)
  refine A_new ho kC9 rfl (r := 46) rfl ?_
  repeat (refine R_s kC9 rfl rfl ?_)
  refine A_ini ho kC9 rfl rfl rfl rfl (p := [objA 0 _] ++ seL 4 ++ seL 18 ++ boL 32 5) rfl (fun h2 e2 => sp_FA_init (d + 1) e2 (by omega)) rfl ?_
  refine A_put ho o3 kC9 rfl 0 rfl rfl (Nat.le_of_ble_eq_true rfl) rfl rfl ?_
  repeat (refine R_s kC9 rfl rfl ?_)
  refine A_new ho kC9 rfl (r := 47) rfl ?_
  repeat (refine R_s kC9 rfl rfl ?_)
  refine A_get ho kC9 rfl 0 rfl rfl rfl ?_
  refine A_ini ho kC9 rfl rfl rfl rfl (p := [objA 0 _] ++ seL 4 ++ seL 18 ++ boL 32 5 ++ [faL]) rfl (fun h2 e2 => sp_BO_init (d + 4) e2 (by omega) 46) rfl ?_
  refine A_put ho o3 kC9 rfl 0 rfl rfl (Nat.le_of_ble_eq_true rfl) rfl rfl ?_
  repeat (refine R_s kC9 rfl rfl ?_)
  refine A_new ho kC9 rfl (r := 61) rfl ?_
  repeat (refine R_s kC9 rfl rfl ?_)
  refine A_ini ho kC9 rfl rfl rfl rfl (p := [objA 0 _] ++ seL 4 ++ seL 18 ++ boL 32 5 ++ [faL] ++ boL 47 46) rfl (fun h2 e2 => sp_TE_init (d + 5) e2 (by omega)) rfl ?_
  refine A_put ho o3 kC9 rfl 0 rfl rfl (Nat.le_of_ble_eq_true rfl) rfl rfl ?_
  repeat (refine R_s kC9 rfl rfl ?_)
  refine A_nwr ho kC9 rfl (n := 6) rfl (by omega) (r := 63) rfl ?_
  refine A_put ho o3 kC9 rfl 0 rfl rfl (Nat.le_of_ble_eq_true rfl) rfl rfl ?_
  iterate 2 (refine R_s kC9 rfl rfl ?_)
  have key : ∀ m k, k + m = 6 → R (d + 6) 92 43 [some (.ref 3), some (.int (nI k))] [] (alL h ([nbX] ++ nbB ++ [tpC k] ++ taLs k)) (fun r2 h2 => r2 = none ∧ h2 = alL h nbL) := by
    intro m
    induction m with
    | zero =>
      intro k hk
      obtain rfl : k = 6 := by omega
      repeat (refine R_s kC9 rfl rfl ?_)
      refine A_get ho kC9 rfl 0 rfl rfl rfl ?_
      refine R_alen kC9 rfl (alL_at (i := 60) ho rfl) (by omega) ?_
      refine R_ge kC9 rfl rfl rfl (by omega) (by omega) (fun _ => ?_) (fun hc => absurd hc (by omega))
      exact R_rv kC9 rfl ⟨rfl, rfl⟩
    | succ m ih =>
      intro k hk
      have k6 : k < 6 := by omega
      have ln : ∀ k, (taLs k).length = 2 * k := by
        intro k
        induction k with
        | zero => rfl
        | succ k ih => show (taLs k ++ taL (64 + 2 * k)).length = _; rw [List.length_append, ih]; show 2 * k + 2 = _; omega
      have lB : ([nbX] ++ nbB).length = 60 := rfl
      have lP : ∀ k, ([nbX] ++ nbB ++ [tpC k] ++ taLs k).length = 61 + 2 * k := fun k => by rw [List.length_append, List.length_append, ln, lB]; rfl
      have at0 : ∀ k (z : List AC), ([nbX] ++ nbB ++ [tpC k] ++ taLs k ++ z)[0]? = some nbX := fun k z => rfl
      have at60 : ∀ k (z : List AC), ([nbX] ++ nbB ++ [tpC k] ++ taLs k ++ z)[60]? = some (tpC k) := fun k z => rfl
      repeat (refine R_s kC9 rfl rfl ?_)
      refine A_get ho kC9 rfl 0 rfl (show _ = some nbX from rfl) rfl ?_
      refine R_alen kC9 rfl (alL_at (i := 60) ho (show _ = some (tpC k) from rfl)) (by omega) ?_
      refine R_ge kC9 rfl rfl rfl (by omega) (by omega) (fun hc => absurd hc (by omega)) (fun _ => ?_)
      repeat (refine R_s kC9 rfl rfl ?_)
      refine A_get ho kC9 rfl 0 rfl (show _ = some nbX from rfl) rfl ?_
      repeat (refine R_s kC9 rfl rfl ?_)
      refine A_new ho kC9 rfl (r := 64 + 2 * k) (by rw [lP]; omega) ?_
      repeat (refine R_s kC9 rfl rfl ?_)
      refine A_ini ho kC9 rfl rfl rfl rfl (p := [nbX] ++ nbB ++ [tpC k] ++ taLs k) (c := 6) rfl (fun h2 e2 => sp_TA_init (d + 5) (o := 64 + 2 * k) (by rw [e2, lP]; omega) (by omega)) rfl ?_
      refine A_ast ho o3 kC9 rfl 60 (61 + 2 * k) rfl (by omega) (at60 k _) (fs := [.int (-1), .ref (64 + 2 * k + 1), .int 0]) ?_ rfl k6 (by omega) rfl ?_
      · rw [List.getElem?_append_right (by rw [lP]; omega), lP, Nat.sub_self]; rfl
      repeat (refine R_s kC9 rfl rfl ?_)
      refine R_g kC9 rfl ?_
      have e : (([nbX] ++ nbB ++ [tpC k] ++ taLs k) ++ taL (64 + 2 * k)).set 60 (.inl (tpT, 6, .inr (.inr (.inr (.inr (va_up (tpF k) k (some (64 + 2 * k)))))))) = [nbX] ++ nbB ++ [tpC (k + 1)] ++ taLs (k + 1) := by
        show _ = [nbX] ++ nbB ++ [tpC (k + 1)] ++ (taLs k ++ taL (64 + 2 * k))
        rfl
      have := ih (k + 1) (by omega)
      rw [← e, ← nI_add] at this
      exact this
  exact key 6 0 (by omega)
end
