/-! THE REFERENCE, 12: fault, told sets, clauses done, read -/
/-- the fault, c clauses may come from p on -/
def fltF (tx : List Nat) : Nat → Nat → Option Nat
  | 0, _ => none
  | c + 1, p => if clOk tx p = false then some (clE tx p) else if c ≠ 0 ∧ hereF tx (clE tx p) = nI 59 then fltF tx c (clE tx p + 1) else if clE tx p < tx.length then some (clE tx p) else none
theorem fltF_succ (tx : List Nat) (c p : Nat) : fltF tx (c + 1) p = if clOk tx p = false then some (clE tx p) else if c ≠ 0 ∧ hereF tx (clE tx p) = nI 59 then fltF tx c (clE tx p + 1) else if clE tx p < tx.length then some (clE tx p) else none := rfl
def fltR (o : Option Nat) : Int32 := match o with
  | some q => nI q
  | none => -1
theorem clE_le {tx : List Nat} (hx : ∀ x ∈ tx, x < 128) {p : Nat} (hp : p ≤ tx.length) : clE tx p ≤ tx.length := by
  unfold clE
  split
  · exact hp
  · rename_i hm
    have h1 := hereF_most hm
    unfold clG
    rw [if_neg hm]
    exact digN_end hx _ _ (by omega)
theorem hereF_59 {tx : List Nat} {q : Nat} (h : hereF tx q = nI 59) : q < tx.length := by
  rcases Nat.lt_or_ge q tx.length with h1 | h1
  · exact h1
  · unfold hereF at h
    rw [List.getElem?_eq_none h1] at h
    exact absurd h (by decide)
section
variable {h : AH} {k fed pl le fi co : Int32} {G T : Nat → Int32} {U : US} {tx : List Nat}
/-- what the reading fields may be behind it: place, letter, figures, the figures' row -/
def Rd (h : AH) (k : Int32) (len : Nat) (co : Int32) (z : Nat × Int32 × Int32 × (Nat → Int32)) : AH := upH (upH h 82 (ints 5 z.2.2.2)) 76 (mob k (nI len) (nI z.1) z.2.1 z.2.2.1 co)
theorem lp_fault (d : Nat) (hT : h.2 81 = ints 100 T) (hx : TxR tx T) : ∀ (c p : Nat) (le fi : Int32) (Fg : Nat → Int32), c < 12 → p ≤ tx.length → R (d + 2) 182 7 [some (.ref 76), some (.int (nI (11 - c))), some (.int (b2i true))] [] (Rd h k tx.length co (p, le, fi, Fg)) (fun r2 h2 => ∃ z : Nat × Int32 × Int32 × (Nat → Int32), z.1 ≤ 101 ∧ r2 = some (.int (fltR (fltF tx (c + 1) p))) ∧ h2 = Rd h k tx.length co z) := by
  have kC9 := co_MO_fault
  have hxl := hx.1
  intro c
  induction c with
  | zero =>
    intro p le fi Fg hc hp
    repeat (refine R_s kC9 rfl rfl ?_)
    refine ZB_eq kC9 rfl (q := true) (fun q => by cases q) (fun _ => ?_)
    repeat (refine R_s kC9 rfl rfl ?_)
    obtain ⟨Fg', hF, hcl⟩ := sp_MO_readsClause (h := Rd h k tx.length co (p, le, fi, Fg)) (Fg := Fg) d (p := p) rfl hT rfl hx (by omega)
    refine R_cv kC9 rfl rfl rfl rfl (h := Rd h k tx.length co (p, le, fi, Fg)) rfl (by decide) hcl ?_
    have hE := clE_le hx.2.1 hp
    have hh : (upH (upH (Rd h k tx.length co (p, le, fi, Fg)) 82 (ints 5 Fg')) 76 (mob k (nI tx.length) (nI (clE tx p)) (hereF tx p) (nI (clG tx p)) co)) = Rd h k tx.length co (clE tx p, hereF tx p, nI (clG tx p), Fg') := by
      unfold Rd
      rw [upH_comm _ _ _ (by decide : (76 : Nat) ≠ 82), upH_upH, upH_upH]
    rw [hh]
    refine ZB_ne kC9 rfl (fun hok => ?_) (fun hok => ?_)
    · repeat (refine R_s kC9 rfl rfl ?_)
      refine R_ge kC9 rfl (u := 12) (v := 12) (by rw [nI_add]) rfl (by decide) (by decide) (fun _ => ?_) (fun q => absurd q (by decide))
      repeat (refine R_s kC9 rfl rfl ?_)
      refine R_get kC9 rfl (h := Rd h k tx.length co (clE tx p, hereF tx p, nI (clG tx p), Fg')) rfl rfl ?_
      repeat (refine R_s kC9 rfl rfl ?_)
      refine ZB_eq kC9 rfl (q := false) (fun _ => ?_) (fun q => by cases q)
      repeat (refine R_s kC9 rfl rfl ?_)
      refine R_put kC9 rfl (h := Rd h k tx.length co (clE tx p, hereF tx p, nI (clG tx p), Fg')) rfl (by decide) (Nat.le_of_ble_eq_true rfl) rfl ?_
      refine R_g kC9 rfl ?_
      have ce : ∀ x : Nat, upH (Rd h k tx.length co (clE tx p, hereF tx p, nI (clG tx p), Fg')) 76 (mob k (nI tx.length) (nI x) (hereF tx p) (nI (clG tx p)) co) = Rd h k tx.length co (x, hereF tx p, nI (clG tx p), Fg') := by
        intro x
        unfold Rd
        rw [upH_upH]
      refine (show R (d + 2) 182 7 [some (.ref 76), some (.int (nI (11 - 0) + nI 1)), some (.int (b2i false))] [] (upH (Rd h k tx.length co (clE tx p, hereF tx p, nI (clG tx p), Fg')) 76 (mob k (nI tx.length) (nI (clE tx p) + nI 0) (hereF tx p) (nI (clG tx p)) co)) _ from ?_)
      rw [nI_add (clE tx p) 0, ce, Nat.add_zero]
      repeat (refine R_s kC9 rfl rfl ?_)
      refine ZB_eq kC9 rfl (q := false) (fun _ => ?_) (fun q => by cases q)
      repeat (refine R_s kC9 rfl rfl ?_)
      refine R_get kC9 rfl (h := Rd h k tx.length co (clE tx p, hereF tx p, nI (clG tx p), Fg')) rfl rfl ?_
      repeat (refine R_s kC9 rfl rfl ?_)
      refine R_get kC9 rfl (h := Rd h k tx.length co (clE tx p, hereF tx p, nI (clG tx p), Fg')) rfl rfl ?_
      refine R_ge kC9 rfl rfl rfl (by dsimp only; omega) (by omega) (fun q => ?_) (fun q => ?_)
      · repeat (refine R_s kC9 rfl rfl ?_)
        refine R_ri kC9 rfl ⟨_, (by dsimp only; omega : (clE tx p, hereF tx p, nI (clG tx p), Fg').1 ≤ 101), ri_eq ?_, rfl⟩
        rw [fltF_succ, if_neg (by rw [hok]; decide), if_neg (fun z => z.1 rfl), if_neg (by have : tx.length ≤ clE tx p := q; omega)]
        rfl
      · repeat (refine R_s kC9 rfl rfl ?_)
        refine R_get kC9 rfl (h := Rd h k tx.length co (clE tx p, hereF tx p, nI (clG tx p), Fg')) rfl rfl ?_
        refine R_g kC9 rfl ?_
        refine R_ri kC9 rfl ⟨_, (by dsimp only; omega : (clE tx p, hereF tx p, nI (clG tx p), Fg').1 ≤ 101), ri_eq ?_, rfl⟩
        rw [fltF_succ, if_neg (by rw [hok]; decide), if_neg (fun z => z.1 rfl), if_pos q]
        rfl
    · repeat (refine R_s kC9 rfl rfl ?_)
      refine R_get kC9 rfl (h := Rd h k tx.length co (clE tx p, hereF tx p, nI (clG tx p), Fg')) rfl rfl ?_
      refine R_ri kC9 rfl ⟨_, (by dsimp only; omega : (clE tx p, hereF tx p, nI (clG tx p), Fg').1 ≤ 101), ri_eq ?_, rfl⟩
      rw [fltF_succ, if_pos hok]
      rfl
  | succ c ih =>
    intro p le fi Fg hc hp
    repeat (refine R_s kC9 rfl rfl ?_)
    refine ZB_eq kC9 rfl (q := true) (fun q => by cases q) (fun _ => ?_)
    repeat (refine R_s kC9 rfl rfl ?_)
    obtain ⟨Fg', hF, hcl⟩ := sp_MO_readsClause (h := Rd h k tx.length co (p, le, fi, Fg)) (Fg := Fg) d (p := p) rfl hT rfl hx (by omega)
    refine R_cv kC9 rfl rfl rfl rfl (h := Rd h k tx.length co (p, le, fi, Fg)) rfl (by decide) hcl ?_
    have hE := clE_le hx.2.1 hp
    have hh : (upH (upH (Rd h k tx.length co (p, le, fi, Fg)) 82 (ints 5 Fg')) 76 (mob k (nI tx.length) (nI (clE tx p)) (hereF tx p) (nI (clG tx p)) co)) = Rd h k tx.length co (clE tx p, hereF tx p, nI (clG tx p), Fg') := by
      unfold Rd
      rw [upH_comm _ _ _ (by decide : (76 : Nat) ≠ 82), upH_upH, upH_upH]
    rw [hh]
    refine ZB_ne kC9 rfl (fun hok => ?_) (fun hok => ?_)
    · repeat (refine R_s kC9 rfl rfl ?_)
      refine R_ge kC9 rfl (u := 11 - (c + 1) + 1) (v := 12) (by rw [nI_add]) rfl (by omega) (by decide) (fun q => by omega) (fun _ => ?_)
      have hT' : (Rd h k tx.length co (clE tx p, hereF tx p, nI (clG tx p), Fg')).2 81 = ints 100 T := hT
      repeat (refine R_s kC9 rfl rfl ?_)
      refine R_cv kC9 rfl rfl rfl rfl (h := Rd h k tx.length co (clE tx p, hereF tx p, nI (clG tx p), Fg')) rfl (by decide) (sp_MO_here (d + 1) (p := clE tx p) rfl hT' hx (by omega)) ?_
      have tail : ∀ (go : Bool), go = decide (hereF tx (clE tx p) = nI 59) → R (d + 2) 182 26 [some (.ref 76), some (.int (nI (11 - (c + 1)) + nI 1)), some (.int (b2i true))] [.int (b2i go)] (Rd h k tx.length co (clE tx p, hereF tx p, nI (clG tx p), Fg')) (fun r2 h2 => ∃ z : Nat × Int32 × Int32 × (Nat → Int32), z.1 ≤ 101 ∧ r2 = some (.int (fltR (fltF tx (c + 1 + 1) p))) ∧ h2 = Rd h k tx.length co z) := by
        intro go hgo
        repeat (refine R_s kC9 rfl rfl ?_)
        refine R_get kC9 rfl (h := Rd h k tx.length co (clE tx p, hereF tx p, nI (clG tx p), Fg')) rfl rfl ?_
        repeat (refine R_s kC9 rfl rfl ?_)
        have ce : ∀ x : Nat, upH (Rd h k tx.length co (clE tx p, hereF tx p, nI (clG tx p), Fg')) 76 (mob k (nI tx.length) (nI x) (hereF tx p) (nI (clG tx p)) co) = Rd h k tx.length co (x, hereF tx p, nI (clG tx p), Fg') := by
          intro x
          unfold Rd
          rw [upH_upH]
        cases go with
        | true =>
          have h59 : hereF tx (clE tx p) = nI 59 := of_decide_eq_true hgo.symm
          have hlt := hereF_59 h59
          refine ZB_eq kC9 rfl (q := true) (fun q => by cases q) (fun _ => ?_)
          repeat (refine R_s kC9 rfl rfl ?_)
          refine R_g kC9 rfl ?_
          repeat (refine R_s kC9 rfl rfl ?_)
          refine R_put kC9 rfl (h := Rd h k tx.length co (clE tx p, hereF tx p, nI (clG tx p), Fg')) rfl (by decide) (Nat.le_of_ble_eq_true rfl) rfl ?_
          refine R_g kC9 rfl ?_
          refine (show R (d + 2) 182 7 [some (.ref 76), some (.int (nI (11 - (c + 1)) + nI 1)), some (.int (b2i true))] [] (upH (Rd h k tx.length co (clE tx p, hereF tx p, nI (clG tx p), Fg')) 76 (mob k (nI tx.length) (nI (clE tx p) + nI 1) (hereF tx p) (nI (clG tx p)) co)) _ from ?_)
          rw [nI_add (clE tx p) 1, ce, nI_add, show 11 - (c + 1) + 1 = 11 - c by omega, fltF_succ tx (c + 1) p, if_neg (by rw [hok]; decide), if_pos ⟨by omega, h59⟩]
          exact ih (clE tx p + 1) _ _ Fg' (by omega) (by omega)
        | false =>
          have h59 : ¬ hereF tx (clE tx p) = nI 59 := of_decide_eq_false hgo.symm
          refine ZB_eq kC9 rfl (q := false) (fun _ => ?_) (fun q => by cases q)
          repeat (refine R_s kC9 rfl rfl ?_)
          refine R_put kC9 rfl (h := Rd h k tx.length co (clE tx p, hereF tx p, nI (clG tx p), Fg')) rfl (by decide) (Nat.le_of_ble_eq_true rfl) rfl ?_
          refine R_g kC9 rfl ?_
          refine (show R (d + 2) 182 7 [some (.ref 76), some (.int (nI (11 - (c + 1)) + nI 1)), some (.int (b2i false))] [] (upH (Rd h k tx.length co (clE tx p, hereF tx p, nI (clG tx p), Fg')) 76 (mob k (nI tx.length) (nI (clE tx p) + nI 0) (hereF tx p) (nI (clG tx p)) co)) _ from ?_)
          rw [nI_add (clE tx p) 0, ce, Nat.add_zero]
          repeat (refine R_s kC9 rfl rfl ?_)
          refine ZB_eq kC9 rfl (q := false) (fun _ => ?_) (fun q => by cases q)
          repeat (refine R_s kC9 rfl rfl ?_)
          refine R_get kC9 rfl (h := Rd h k tx.length co (clE tx p, hereF tx p, nI (clG tx p), Fg')) rfl rfl ?_
          repeat (refine R_s kC9 rfl rfl ?_)
          refine R_get kC9 rfl (h := Rd h k tx.length co (clE tx p, hereF tx p, nI (clG tx p), Fg')) rfl rfl ?_
          refine R_ge kC9 rfl rfl rfl (by dsimp only; omega) (by omega) (fun q => ?_) (fun q => ?_)
          · repeat (refine R_s kC9 rfl rfl ?_)
            refine R_ri kC9 rfl ⟨_, (by dsimp only; omega : (clE tx p, hereF tx p, nI (clG tx p), Fg').1 ≤ 101), ri_eq ?_, rfl⟩
            rw [fltF_succ, if_neg (by rw [hok]; decide), if_neg (fun z => h59 z.2), if_neg (by have : tx.length ≤ clE tx p := q; omega)]
            rfl
          · repeat (refine R_s kC9 rfl rfl ?_)
            refine R_get kC9 rfl (h := Rd h k tx.length co (clE tx p, hereF tx p, nI (clG tx p), Fg')) rfl rfl ?_
            refine R_g kC9 rfl ?_
            refine R_ri kC9 rfl ⟨_, (by dsimp only; omega : (clE tx p, hereF tx p, nI (clG tx p), Fg').1 ≤ 101), ri_eq ?_, rfl⟩
            rw [fltF_succ, if_neg (by rw [hok]; decide), if_neg (fun z => h59 z.2), if_pos q]
            rfl
      repeat (refine R_s kC9 rfl rfl ?_)
      refine Rr_ne kC9 rfl (fun h1 => ?_) (fun h1 => ?_)
      · iterate 1 (refine R_s kC9 rfl rfl ?_)
        exact tail false (decide_eq_false h1).symm
      · iterate 1 (refine R_s kC9 rfl rfl ?_)
        refine R_g kC9 rfl ?_
        exact tail true (decide_eq_true h1).symm
    · repeat (refine R_s kC9 rfl rfl ?_)
      refine R_get kC9 rfl (h := Rd h k tx.length co (clE tx p, hereF tx p, nI (clG tx p), Fg')) rfl rfl ?_
      refine R_ri kC9 rfl ⟨_, (by dsimp only; omega : (clE tx p, hereF tx p, nI (clG tx p), Fg').1 ≤ 101), ri_eq ?_, rfl⟩
      rw [fltF_succ, if_pos hok]
      rfl
theorem sp_MO_fault (d : Nat) {Fg : Nat → Int32} (ho : h.2 76 = mob k (nI tx.length) pl le fi co) (hT : h.2 81 = ints 100 T) (hFg : h.2 82 = ints 5 Fg) (hx : TxR tx T) : ∃ z : Nat × Int32 × Int32 × (Nat → Int32), z.1 ≤ 101 ∧ Cl (d + 2) 182 [.ref 76] h (some (.int (fltR (fltF tx 12 0)))) (Rd h k tx.length co z) := by
  have kC9 := co_MO_fault
  refine Cl_ex (f := fun _ => some (.int (fltR (fltF tx 12 0)))) (g := fun z => Rd h k tx.length co z) kC9 rfl rfl ?_
  repeat (refine R_s kC9 rfl rfl ?_)
  refine R_put kC9 rfl (ho) (by decide) (Nat.le_of_ble_eq_true rfl) rfl ?_
  iterate 4 (refine R_s kC9 rfl rfl ?_)
  refine (show R (d + 2) 182 7 [some (.ref 76), some (.int (nI (11 - 11))), some (.int (b2i true))] [] (upH h 76 (mob k (nI tx.length) (nI 0) le fi co)) _ from ?_)
  have hh : upH h 76 (mob k (nI tx.length) (nI 0) le fi co) = Rd h k tx.length co (0, le, fi, Fg) := by
    unfold Rd
    rw [upH_self hFg]
  rw [hh]
  exact lp_fault d hT hx 11 0 le fi Fg (by omega) (by omega)
end
