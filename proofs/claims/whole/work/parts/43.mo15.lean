/-! THE REFERENCE, 14: read -/
theorem heap_ext {h1 h2 : AH} (h0 : h1.1 = h2.1) (h : ∀ q, h1.2 q = h2.2 q) : h1 = h2 := Prod.ext h0 (funext h)
def dsF (tx : List Nat) (p : Nat) : List Nat := (List.range (clG tx p)).map (fun i => dgV tx (p + 1 + i))
noncomputable def rdF (tx : List Nat) : Nat → Nat → US → Nat → US × Nat
  | 0, _, U, dn => (U, dn)
  | f + 1, p, U, dn => if p < tx.length then rdF tx f (clE tx p + 1) (if clOk tx p = true then (doCl U (hereF tx p) (dsF tx p)).2 else U) (dn + (clOk tx p && (doCl U (hereF tx p) (dsF tx p)).1).toNat) else (U, dn)
theorem rdF_succ (tx : List Nat) (f p : Nat) (U : US) (dn : Nat) : rdF tx (f + 1) p U dn = if p < tx.length then rdF tx f (clE tx p + 1) (if clOk tx p = true then (doCl U (hereF tx p) (dsF tx p)).2 else U) (dn + (clOk tx p && (doCl U (hereF tx p) (dsF tx p)).1).toNat) else (U, dn) := rfl
noncomputable def specRead (U : US) (tx : List Nat) : Int32 × US := match fltF tx 12 0 with
  | some q => (-10 - nI q, U)
  | none => (nI (rdF tx 102 0 U 0).2, (rdF tx 102 0 U 0).1)
theorem fltF_lt {tx : List Nat} (hx : ∀ x ∈ tx, x < 128) : ∀ (c p q : Nat), p ≤ tx.length → fltF tx c p = some q → q ≤ tx.length
  | 0, p, q, hp, h => by cases h
  | c + 1, p, q, hp, h => by
    rw [fltF_succ] at h
    have hE := clE_le hx hp
    split at h
    · cases h; exact hE
    · split at h
      · rename_i h59
        have := hereF_59 h59.2
        exact fltF_lt hx c _ q (by omega) h
      · split at h
        · cases h; exact hE
        · cases h
section
variable {h : AH} {k fed pl le fi co : Int32} {G T Fg N : Nat → Int32} {U : US} {tx : List Nat}
def rdH (h : AH) (k : Int32) (len : Nat) (co : Int32) (z : Nat × Int32 × Int32 × (Nat → Int32)) (G N : Nat → Int32) : AH := upH (upH (upH (upH h 82 (ints 5 z.2.2.2)) 76 (mob k (nI len) (nI z.1) z.2.1 z.2.2.1 co)) 80 (ints 5 N)) 77 (ints 106 G)
theorem rdH_rd (z : Nat × Int32 × Int32 × (Nat → Int32)) (len len' p' : Nat) (c f : Int32) (F' : Nat → Int32) : upH (upH (rdH h k len co z G N) 82 (ints 5 F')) 76 (mob k (nI len') (nI p') c f co) = rdH h k len' co (p', c, f, F') G N := by
  refine heap_ext rfl (fun q => ?_)
  unfold rdH
  simp only [upH]
  repeat' split
  all_goals first | rfl | (simp_all)
theorem rdH_mob (z : Nat × Int32 × Int32 × (Nat → Int32)) (len len' p' : Nat) (c f : Int32) : upH (rdH h k len co z G N) 76 (mob k (nI len') (nI p') c f co) = rdH h k len' co (p', c, f, z.2.2.2) G N := by
  refine heap_ext rfl (fun q => ?_)
  unfold rdH
  simp only [upH]
  repeat' split
  all_goals first | rfl | (simp_all)
theorem rdH_gn (z : Nat × Int32 × Int32 × (Nat → Int32)) (len : Nat) (G' N' : Nat → Int32) : upH (upH (rdH h k len co z G N) 80 (ints 5 N')) 77 (ints 106 G') = rdH h k len co z G' N' := by
  refine heap_ext rfl (fun q => ?_)
  unfold rdH
  simp only [upH]
  repeat' split
  all_goals first | rfl | (simp_all)
theorem dsF_at {tx : List Nat} {p i x : Nat} (h : (dsF tx p)[i]? = some x) : i < clG tx p ∧ x = dgV tx (p + 1 + i) := by
  unfold dsF at h
  rw [List.getElem?_map] at h
  cases hq : (List.range (clG tx p))[i]? with
  | none => rw [hq] at h; cases h
  | some j =>
    have hl := (List.getElem?_eq_some_iff.mp hq).1
    rw [List.length_range] at hl
    rw [List.getElem?_range hl] at hq
    cases hq
    rw [List.getElem?_range hl] at h
    cases h
    exact ⟨hl, rfl⟩
theorem dgV_9 (tx : List Nat) (hx : ∀ x ∈ tx, x < 128) : ∀ (m q i : Nat), i < digN tx q m → dgV tx (q + i) ≤ 9
  | 0, q, i, h => by cases h
  | m + 1, q, i, h => by
    rw [digN_succ] at h
    split at h
    · rename_i hd
      cases i with
      | zero => exact (hereF_dg hx hd).2.2
      | succ i =>
        have := dgV_9 tx hx m (q + 1) i (by omega)
        rw [show q + (i + 1) = q + 1 + i by omega]
        exact this
    · cases h
theorem lp_read (d : Nat) {P : US → Prop} (hP : Good P) (hT : h.2 81 = ints 100 T) (hx : TxR tx T) (w3 : Option Value) : ∀ (m p : Nat) (le fi : Int32) (Fg G N : Nat → Int32) (U : US) (dn : Nat) (w3 : Option Value), tx.length + 1 - p < m → p ≤ tx.length + 1 → GU U G → P U → R (d + 7) 185 8 [some (.ref 76), some (.int (-1)), some (.int (nI dn)), w3] [] (rdH h k tx.length co (p, le, fi, Fg) G N) (fun r2 h2 => ∃ z : (Nat × Int32 × Int32 × (Nat → Int32)) × (Nat → Int32) × (Nat → Int32), GU (rdF tx m p U dn).1 z.2.1 ∧ P (rdF tx m p U dn).1 ∧ r2 = some (.int (nI (rdF tx m p U dn).2)) ∧ h2 = rdH h k 0 co z.1 z.2.1 z.2.2) := by
  have kC9 := co_MO_read
  have hxl := hx.1
  intro m
  induction m with
  | zero => intro p le fi Fg G N U dn w3 hm; omega
  | succ m ih =>
    intro p le fi Fg G N U dn w3 hm hp hU hPU
    rw [rdF_succ]
    repeat (refine R_s kC9 rfl rfl ?_)
    refine Rr_ne kC9 rfl (fun q => absurd rfl q) (fun _ => ?_)
    repeat (refine R_s kC9 rfl rfl ?_)
    refine R_get kC9 rfl (h := rdH h k tx.length co (p, le, fi, Fg) G N) rfl rfl ?_
    repeat (refine R_s kC9 rfl rfl ?_)
    refine R_get kC9 rfl (h := rdH h k tx.length co (p, le, fi, Fg) G N) rfl rfl ?_
    refine R_ge kC9 rfl rfl rfl (by dsimp only; omega) (by omega) (fun q => ?_) (fun q => ?_)
    · have q : tx.length ≤ p := q
      rw [if_neg (by omega)]
      repeat (refine R_s kC9 rfl rfl ?_)
      refine R_put kC9 rfl (h := rdH h k tx.length co (p, le, fi, Fg) G N) rfl (by decide) (Nat.le_of_ble_eq_true rfl) rfl ?_
      repeat (refine R_s kC9 rfl rfl ?_)
      refine Rr_ne kC9 rfl (fun q => absurd rfl q) (fun _ => ?_)
      repeat (refine R_s kC9 rfl rfl ?_)
      refine R_g kC9 rfl ?_
      exact R_ri kC9 rfl ⟨((p, le, fi, Fg), G, N), hU, hPU, rfl, rdH_mob (p, le, fi, Fg) tx.length 0 p le fi⟩
    · have q : p < tx.length := q
      rw [if_pos q]
      repeat (refine R_s kC9 rfl rfl ?_)
      obtain ⟨Fg', hF, hcl⟩ := sp_MO_readsClause (h := rdH h k tx.length co (p, le, fi, Fg) G N) (Fg := Fg) (d + 5) (p := p) rfl hT rfl hx (by omega)
      refine R_cv kC9 rfl rfl rfl rfl (h := rdH h k tx.length co (p, le, fi, Fg) G N) rfl (by decide) hcl ?_
      rw [rdH_rd]
      have hE := clE_le hx.2.1 (show p ≤ tx.length by omega)
      have hEp : p ≤ clE tx p := by unfold clE; split <;> omega
      have tail : ∀ (G' N' : Nat → Int32) (U' : US) (v : Bool) (w : Option Value), GU U' G' → P U' → R (d + 7) 185 28 [some (.ref 76), some (.int (-1)), some (.int (nI dn)), w] [.int (b2i v), .int (nI dn)] (rdH h k tx.length co (clE tx p, hereF tx p, nI (clG tx p), Fg') G' N') (fun r2 h2 => ∃ z : (Nat × Int32 × Int32 × (Nat → Int32)) × (Nat → Int32) × (Nat → Int32), GU (rdF tx m (clE tx p + 1) U' (dn + v.toNat)).1 z.2.1 ∧ P (rdF tx m (clE tx p + 1) U' (dn + v.toNat)).1 ∧ r2 = some (.int (nI (rdF tx m (clE tx p + 1) U' (dn + v.toNat)).2)) ∧ h2 = rdH h k 0 co z.1 z.2.1 z.2.2) := by
        intro G' N' U' v w hU' hP'
        iterate 1 (refine R_s kC9 rfl rfl ?_)
        refine (show R (d + 7) 185 29 _ [.int (nI dn + b2i v)] _ _ from ?_)
        rw [b2i_nI v, nI_add]
        repeat (refine R_s kC9 rfl rfl ?_)
        refine R_get kC9 rfl (h := rdH h k tx.length co (clE tx p, hereF tx p, nI (clG tx p), Fg') G' N') rfl rfl ?_
        repeat (refine R_s kC9 rfl rfl ?_)
        refine R_put kC9 rfl (h := rdH h k tx.length co (clE tx p, hereF tx p, nI (clG tx p), Fg') G' N') rfl (by decide) (Nat.le_of_ble_eq_true rfl) rfl ?_
        refine R_g kC9 rfl ?_
        refine (show R (d + 7) 185 8 [some (.ref 76), some (.int (-1)), some (.int (nI (dn + v.toNat))), w] [] (upH (rdH h k tx.length co (clE tx p, hereF tx p, nI (clG tx p), Fg') G' N') 76 (mob k (nI tx.length) (nI (clE tx p) + nI 1) (hereF tx p) (nI (clG tx p)) co)) _ from ?_)
        rw [nI_add (clE tx p) 1, rdH_mob]
        exact ih (clE tx p + 1) _ _ Fg' G' N' U' (dn + v.toNat) w (by omega) (by omega) hU' hP'
      repeat (refine R_s kC9 rfl rfl ?_)
      refine ZB_eq kC9 rfl (fun hok => ?_) (fun hok => ?_)
      · iterate 1 (refine R_s kC9 rfl rfl ?_)
        rw [hok, if_neg (by decide)]
        exact tail G N U false _ hU hPU
      · have hok' := hok
        unfold clOk at hok'
        simp only [Bool.and_eq_true, Bool.not_eq_true', decide_eq_false_iff_not, decide_eq_true_eq, Bool.or_eq_true] at hok'
        have hlen : (dsF tx p).length = clG tx p := by unfold dsF; rw [List.length_map, List.length_range]
        have eG : clG tx p = digN tx (p + 1) (mostF (hereF tx p)) := by unfold clG; rw [if_neg hok'.1]
        have hg5 : clG tx p ≤ 5 := by rw [eG]; exact Nat.le_trans (digN_le tx _ _) (mostF_le _)
        obtain ⟨⟨G', N'⟩, hz, hcl2⟩ := sp_MO_isDone (h := rdH h k tx.length co (clE tx p, hereF tx p, nI (clG tx p), Fg') G N) (N := N) (Fg := Fg') d hP rfl rfl rfl rfl hU hPU (ds := dsF tx p) (by rw [hlen]) (fun i x hi => by
          obtain ⟨h1, rfl⟩ := dsF_at hi
          exact ⟨hF i h1, by rw [eG] at h1; exact dgV_9 tx hx.2.1 _ _ _ h1⟩) (by rw [hlen]; exact hg5) (by rw [hlen]; omega) (fun e => by
          rw [hlen]
          rcases hok'.2.2 with q1 | q1
          · exact absurd e q1
          · exact q1) hok'.1
        dsimp only at hz hcl2
        rw [rdH_gn] at hcl2
        rw [hok, if_pos rfl, Bool.true_and]
        have hP2 := hP.2 U (hereF tx p) (dsF tx p) hPU
        repeat (refine R_s kC9 rfl rfl ?_)
        refine R_cv kC9 rfl rfl rfl rfl (h := rdH h k tx.length co (clE tx p, hereF tx p, nI (clG tx p), Fg') G N) rfl (by decide) hcl2 ?_
        refine ZB_eq kC9 rfl (fun hb => ?_) (fun hb => ?_)
        · iterate 1 (refine R_s kC9 rfl rfl ?_)
          have := tail G' N' _ false (some (.int (b2i true))) hz hP2
          rw [hb]
          exact this
        · iterate 1 (refine R_s kC9 rfl rfl ?_)
          refine R_g kC9 rfl ?_
          have := tail G' N' _ true (some (.int (b2i true))) hz hP2
          rw [hb]
          exact this
theorem sp_MO_read (d : Nat) {P : US → Prop} (hP : Good P) (ho : h.2 76 = mob k (nI tx.length) pl le fi co) (hg : h.2 77 = ints 106 G) (hN : h.2 80 = ints 5 N) (hT : h.2 81 = ints 100 T) (hFg : h.2 82 = ints 5 Fg) (hx : TxR tx T) (hU : GU U G) (hPU : P U) : P (specRead U tx).2 ∧ ∃ z : (Nat × Int32 × Int32 × (Nat → Int32)) × (Nat → Int32) × (Nat → Int32), GU (specRead U tx).2 z.2.1 ∧ Cl (d + 7) 185 [.ref 76] h (some (.int (specRead U tx).1)) (rdH h k 0 co z.1 z.2.1 z.2.2) := by
  have kC9 := co_MO_read
  obtain ⟨z, hz1, hfl⟩ := sp_MO_fault (d + 4) ho hT hFg hx
  have hxl := hx.1
  have hR0 : ∀ p', upH (Rd h k tx.length co z) 76 (mob k (nI tx.length) (nI p') z.2.1 z.2.2.1 co) = rdH h k tx.length co (p', z.2.1, z.2.2.1, z.2.2.2) G N := by
    intro p'
    have hg' : (Rd h k tx.length co z).2 77 = ints 106 G := hg
    have hN' : (Rd h k tx.length co z).2 80 = ints 5 N := hN
    unfold rdH Rd
    rw [upH_upH]
    dsimp only
    rw [upH_self (show (upH (upH h 82 (ints 5 z.2.2.2)) 76 (mob k (nI tx.length) (nI p') z.2.1 z.2.2.1 co)).2 80 = ints 5 N from hN), upH_self (show (upH (upH h 82 (ints 5 z.2.2.2)) 76 (mob k (nI tx.length) (nI p') z.2.1 z.2.2.1 co)).2 77 = ints 106 G from hg)]
  cases hf : fltF tx 12 0 with
  | some q =>
    have hq := fltF_lt hx.2.1 12 0 q (by omega) hf
    have e : specRead U tx = (-10 - nI q, U) := by unfold specRead; rw [hf]
    rw [e]
    refine ⟨hPU, ((0, z.2.1, z.2.2.1, z.2.2.2), G, N), hU, ?_⟩
    refine Cl_of kC9 rfl rfl ?_
    repeat (refine R_s kC9 rfl rfl ?_)
    refine R_cv kC9 rfl rfl rfl rfl ho (by decide) hfl ?_
    rw [hf]
    repeat (refine R_s kC9 rfl rfl ?_)
    refine R_put kC9 rfl (h := Rd h k tx.length co z) rfl (by decide) (Nat.le_of_ble_eq_true rfl) rfl ?_
    refine (show R (d + 7) 185 8 _ [] (upH (Rd h k tx.length co z) 76 (mob k (nI tx.length) (nI 0) z.2.1 z.2.2.1 co)) _ from ?_)
    rw [hR0 0]
    repeat (refine R_s kC9 rfl rfl ?_)
    refine Rr_ne kC9 rfl (fun _ => ?_) (fun hc => absurd hc (nI_ne_neg (by omega)))
    repeat (refine R_s kC9 rfl rfl ?_)
    refine R_put kC9 rfl (h := rdH h k tx.length co (0, z.2.1, z.2.2.1, z.2.2.2) G N) rfl (by decide) (Nat.le_of_ble_eq_true rfl) rfl ?_
    repeat (refine R_s kC9 rfl rfl ?_)
    refine Rr_ne kC9 rfl (fun _ => ?_) (fun hc => absurd hc (nI_ne_neg (by omega)))
    repeat (refine R_s kC9 rfl rfl ?_)
    exact R_ri kC9 rfl ⟨rfl, rdH_mob (0, z.2.1, z.2.2.1, z.2.2.2) tx.length 0 0 _ _⟩
  | none =>
    have e : specRead U tx = (nI (rdF tx 102 0 U 0).2, (rdF tx 102 0 U 0).1) := by unfold specRead; rw [hf]
    rw [e]
    have key : ∃ z2 : (Nat × Int32 × Int32 × (Nat → Int32)) × (Nat → Int32) × (Nat → Int32), (GU (rdF tx 102 0 U 0).1 z2.2.1 ∧ P (rdF tx 102 0 U 0).1) ∧ Cl (d + 7) 185 [.ref 76] h (some (.int (nI (rdF tx 102 0 U 0).2))) (rdH h k 0 co z2.1 z2.2.1 z2.2.2) := by
      refine Cl_ex (α := (Nat × Int32 × Int32 × (Nat → Int32)) × (Nat → Int32) × (Nat → Int32)) (f := fun _ => some (.int (nI (rdF tx 102 0 U 0).2))) (g := fun z2 => rdH h k 0 co z2.1 z2.2.1 z2.2.2) kC9 rfl rfl ?_
      repeat (refine R_s kC9 rfl rfl ?_)
      refine R_cv kC9 rfl rfl rfl rfl ho (by decide) hfl ?_
      rw [hf]
      repeat (refine R_s kC9 rfl rfl ?_)
      refine R_put kC9 rfl (h := Rd h k tx.length co z) rfl (by decide) (Nat.le_of_ble_eq_true rfl) rfl ?_
      refine (show R (d + 7) 185 8 [some (.ref 76), some (.int (-1)), some (.int (nI 0)), none] [] (upH (Rd h k tx.length co z) 76 (mob k (nI tx.length) (nI 0) z.2.1 z.2.2.1 co)) _ from ?_)
      rw [hR0 0]
      obtain ⟨n2, r2, h2, e1, z2, a1, a2, a3, a4⟩ := lp_read (co := co) (k := k) d hP hT hx none 102 0 z.2.1 z.2.2.1 z.2.2.2 G N U 0 none (by omega) (by omega) hU hPU
      exact ⟨n2, r2, h2, e1, z2, ⟨a1, a2⟩, a3, a4⟩
    obtain ⟨z2, ⟨a1, a2⟩, hcl⟩ := key
    exact ⟨a2, z2, a1, hcl⟩
end
