/-! RULES of the small machine: from a place in a method it comes to an end with Q -/
def R (d mi i : Nat) (ls : ALs) (st : List Value) (h : AH) (Q : Option Value → AH → Prop) : Prop := ∃ (n : Nat) (r : Option Value) (h' : AH), run fty dvl mt n d mi i ls st h = some (r, h') ∧ Q r h'
theorem R_nx {d mi i nL : Nat} {cd : List EI} {ret : Option FieldType} {e : EI} {ls ls' : ALs} {st st' : List Value} {h h' : AH} {i' : Nat} {Q : Option Value → AH → Prop} (hm : mt mi = (cd, nL, ret)) (he : cd[i]? = some e) (hx : nx fty dvl ret e ls st h = some (.inl (i', ls', st', h'))) (k : R d mi i' ls' st' h' Q) : R d mi i ls st h Q := by
  obtain ⟨n, r, h2, hr, hq⟩ := k
  refine ⟨n + 1, r, h2, ?_, hq⟩
  unfold run
  rw [hm]
  dsimp only
  rw [he]
  dsimp only
  rw [hx]
  exact hr
section
variable {d mi i nL : Nat} {cd : List EI} {ret : Option FieldType} {bp j a b : Nat} {ins : Instr} {x : Int32} {y : Int64} {ts : List Nat} {ls ls' : ALs} {st st' : List Value} {h h' : AH} {Q : Option Value → AH → Prop}
theorem nx_1 (hs : step1 ins x y ls st = some (ls', st')) : nx fty dvl ret (bp, ins, x, y, j, a, b, ts) ls st h = some (.inl (j, ls', st', h)) := by
  unfold nx; dsimp only; rw [hs]
theorem R_s (hm : mt mi = (cd, nL, ret)) (he : cd[i]? = some (bp, ins, x, y, j, a, b, ts)) (hs : step1 ins x y ls st = some (ls', st')) (k : R d mi j ls' st' h Q) : R d mi i ls st h Q := R_nx hm he (nx_1 hs) k
theorem R_b {c : Bool} (hm : mt mi = (cd, nL, ret)) (he : cd[i]? = some (bp, ins, x, y, j, a, b, ts)) (h1 : step1 ins x y ls st = none) (hs : stepB ins st = some (c, st')) (kt : c = true → R d mi a ls st' h Q) (kf : c = false → R d mi j ls st' h Q) : R d mi i ls st h Q := by
  cases c with
  | true => exact R_nx hm he (by unfold nx; dsimp only; rw [h1]; dsimp only; rw [hs]; rfl) (kt rfl)
  | false => exact R_nx hm he (by unfold nx; dsimp only; rw [h1]; dsimp only; rw [hs]; rfl) (kf rfl)
theorem R_g {off : Int} (hm : mt mi = (cd, nL, ret)) (he : cd[i]? = some (bp, .goto off, x, y, j, a, b, ts)) (k : R d mi a ls st h Q) : R d mi i ls st h Q :=
  R_nx hm he (by unfold nx; rfl) k
theorem R_h (hm : mt mi = (cd, nL, ret)) (he : cd[i]? = some (bp, ins, x, y, j, a, b, ts)) (h1 : step1 ins x y ls st = none) (h2 : stepB ins st = none) (hs : stepH fty dvl ins a b st h = some (st', h')) (k : R d mi j ls st' h' Q) : R d mi i ls st h Q :=
  R_nx hm he (by unfold nx; dsimp only; rw [h1]; dsimp only; rw [h2]; dsimp only; rw [hs]) k
theorem R_get {ix r : Nat} {fs : List Value} {v : Value} (hm : mt mi = (cd, nL, ret)) (he : cd[i]? = some (bp, .getfield ix, x, y, j, a, b, ts)) (hc : h.2 r = .inr (b, fs)) (hv : fs[a]? = some v) (k : R d mi j ls (v :: st) h Q) : R d mi i ls (.ref r :: st) h Q :=
  R_h hm he rfl rfl (by unfold stepH; dsimp only; rw [hc]; dsimp only; rw [if_pos rfl, hv]) k
theorem R_put {ix r : Nat} {fs : List Value} {v : Value} (hm : mt mi = (cd, nL, ret)) (he : cd[i]? = some (bp, .putfield ix, x, y, j, a, b, ts)) (hc : h.2 r = .inr (b, fs)) (h3 : 3 ≤ r) (hl : a < fs.length) (hv : okV (fty b a) v = true) (k : R d mi j ls st (upH h r (.inr (b, fs.set a v))) Q) : R d mi i ls (v :: .ref r :: st) h Q :=
  R_h hm he rfl rfl (by unfold stepH; dsimp only; rw [hc]; dsimp only; rw [if_pos ⟨rfl, h3, hl, hv⟩]) k
theorem R_iald {r n : Nat} {f : Nat → Int32} {q : Int32} (hm : mt mi = (cd, nL, ret)) (he : cd[i]? = some (bp, .iaload, x, y, j, a, b, ts)) (hc : h.2 r = .inl (.int, n, .inl f)) (hi : inB q n = true) (k : R d mi j ls (.int (f q.toNatClampNeg) :: st) h Q) : R d mi i ls (.int q :: .ref r :: st) h Q :=
  R_h hm he rfl rfl (by unfold stepH; dsimp only; rw [hc]; dsimp only; rw [if_pos hi]) k
theorem R_bald {r n : Nat} {f : Nat → Int32} {q : Int32} (hm : mt mi = (cd, nL, ret)) (he : cd[i]? = some (bp, .baload, x, y, j, a, b, ts)) (hc : h.2 r = .inl (.byte, n, .inl f)) (hi : inB q n = true) (h3 : 3 ≤ r) (k : R d mi j ls (.int (f q.toNatClampNeg) :: st) h Q) : R d mi i ls (.int q :: .ref r :: st) h Q :=
  R_h hm he rfl rfl (by unfold stepH; dsimp only; rw [hc]; dsimp only; rw [if_pos ⟨hi, h3⟩]) k
theorem R_lald {r n : Nat} {f : Nat → Int64} {q : Int32} (hm : mt mi = (cd, nL, ret)) (he : cd[i]? = some (bp, .laload, x, y, j, a, b, ts)) (hc : h.2 r = .inl (.long, n, .inr (.inl f))) (hi : inB q n = true) (h3 : 3 ≤ r) (k : R d mi j ls (.long (f q.toNatClampNeg) :: st) h Q) : R d mi i ls (.int q :: .ref r :: st) h Q :=
  R_h hm he rfl rfl (by unfold stepH; dsimp only; rw [hc]; dsimp only; rw [if_pos ⟨hi, h3⟩]) k
theorem R_aald {r n : Nat} {C : String} {f : Nat → Option Nat} {q : Int32} (hm : mt mi = (cd, nL, ret)) (he : cd[i]? = some (bp, .aaload, x, y, j, a, b, ts)) (hc : h.2 r = .inl (.object C, n, .inr (.inr (.inr (.inr f))))) (hi : inB q n = true) (h3 : 3 ≤ r) (k : R d mi j ls (rfA (f q.toNatClampNeg) :: st) h Q) : R d mi i ls (.int q :: .ref r :: st) h Q :=
  R_h hm he rfl rfl (by unfold stepH; dsimp only; rw [hc]; dsimp only; rw [if_pos ⟨hi, h3⟩]) k
theorem R_iast {r n : Nat} {f : Nat → Int32} {q v : Int32} (hm : mt mi = (cd, nL, ret)) (he : cd[i]? = some (bp, .iastore, x, y, j, a, b, ts)) (hc : h.2 r = .inl (.int, n, .inl f)) (hi : inB q n = true) (h3 : 3 ≤ r) (k : R d mi j ls st (upH h r (.inl (.int, n, .inl (upd f q.toNatClampNeg v)))) Q) : R d mi i ls (.int v :: .int q :: .ref r :: st) h Q :=
  R_h hm he rfl rfl (by unfold stepH; dsimp only; rw [hc]; dsimp only; rw [if_pos ⟨hi, h3⟩]) k
theorem R_bast {r n : Nat} {f : Nat → Int32} {q v : Int32} (hm : mt mi = (cd, nL, ret)) (he : cd[i]? = some (bp, .bastore, x, y, j, a, b, ts)) (hc : h.2 r = .inl (.byte, n, .inl f)) (hi : inB q n = true) (h3 : 3 ≤ r) (k : R d mi j ls st (upH h r (.inl (.byte, n, .inl (upd f q.toNatClampNeg (vp_nar .byte v))))) Q) : R d mi i ls (.int v :: .int q :: .ref r :: st) h Q :=
  R_h hm he rfl rfl (by unfold stepH; dsimp only; rw [hc]; dsimp only; rw [if_pos ⟨hi, h3⟩]) k
theorem R_last {r n : Nat} {f : Nat → Int64} {q : Int32} {v : Int64} (hm : mt mi = (cd, nL, ret)) (he : cd[i]? = some (bp, .lastore, x, y, j, a, b, ts)) (hc : h.2 r = .inl (.long, n, .inr (.inl f))) (hi : inB q n = true) (h3 : 3 ≤ r) (k : R d mi j ls st (upH h r (.inl (.long, n, .inr (.inl (vp_updL f q.toNatClampNeg v))))) Q) : R d mi i ls (.long v :: .int q :: .ref r :: st) h Q :=
  R_h hm he rfl rfl (by unfold stepH; dsimp only; rw [hc]; dsimp only; rw [if_pos ⟨hi, h3⟩]) k
theorem R_alen {r n : Nat} {t : FieldType} {z} (hm : mt mi = (cd, nL, ret)) (he : cd[i]? = some (bp, .arraylength, x, y, j, a, b, ts)) (hc : h.2 r = .inl (t, n, z)) (hn : n < 100000) (k : R d mi j ls (.int (nI n) :: st) h Q) : R d mi i ls (.ref r :: st) h Q :=
  R_h hm he rfl rfl (by unfold stepH; dsimp only; rw [hc]; dsimp only; rw [if_pos hn]) k
theorem R_st {ix : Nat} (hm : mt mi = (cd, nL, ret)) (he : cd[i]? = some (bp, .getstatic ix, x, y, j, a, b, ts)) (k : R d mi j ls (.ref a :: st) h Q) : R d mi i ls st h Q :=
  R_h hm he rfl rfl rfl k
theorem R_div {v w : Int32} (hm : mt mi = (cd, nL, ret)) (he : cd[i]? = some (bp, .idiv, x, y, j, a, b, ts)) (hz : ¬ w = 0) (k : R d mi j ls (.int (v / w) :: st) h Q) : R d mi i ls (.int w :: .int v :: st) h Q :=
  R_nx hm he (by unfold nx; dsimp only [step1, stepB, stepH, stepC, stepR, stepD]; rw [if_neg hz]) k
theorem R_rem {v w : Int32} (hm : mt mi = (cd, nL, ret)) (he : cd[i]? = some (bp, .irem, x, y, j, a, b, ts)) (hz : ¬ w = 0) (k : R d mi j ls (.int (v - v / w * w) :: st) h Q) : R d mi i ls (.int w :: .int v :: st) h Q :=
  R_nx hm he (by unfold nx; dsimp only [step1, stepB, stepH, stepC, stepR, stepD]; rw [if_neg hz]) k
theorem R_max {ix : Nat} {v w : Int32} (hm : mt mi = (cd, nL, ret)) (he : cd[i]? = some (bp, .invokestatic ix, x, y, j, a, 1002, ts)) (hu : unS st ≤ 8) (k : R d mi j ls (.int (if v < w then w else v) :: st) h Q) : R d mi i ls (.int w :: .int v :: st) h Q :=
  R_nx hm he (by unfold nx; dsimp only [step1, stepB, stepH, stepC, stepR, stepD, stepW, stepO]; rw [if_neg (by omega), if_pos hu, if_pos rfl]) k
theorem R_min {ix : Nat} {v w : Int32} (hm : mt mi = (cd, nL, ret)) (he : cd[i]? = some (bp, .invokestatic ix, x, y, j, a, 1003, ts)) (hu : unS st ≤ 8) (k : R d mi j ls (.int (if w < v then w else v) :: st) h Q) : R d mi i ls (.int w :: .int v :: st) h Q :=
  R_nx hm he (by unfold nx; dsimp only [step1, stepB, stepH, stepC, stepR, stepD, stepW, stepO]; rw [if_neg (by omega), if_pos hu, if_neg (by omega), if_pos rfl]) k
theorem R_ret {r : Option Value} (hm : mt mi = (cd, nL, ret)) (he : cd[i]? = some (bp, ins, x, y, j, a, b, ts)) (h1 : step1 ins x y ls st = none) (h2 : stepB ins st = none) (h3 : stepH fty dvl ins a b st h = none) (h4 : stepC ins a b ts st h = none) (hs : stepR ret ins st = some r) (hq : Q r h) : R d mi i ls st h Q := by
  refine ⟨1, r, h, ?_, hq⟩
  unfold run
  rw [hm]
  dsimp only
  rw [he]
  dsimp only
  unfold nx
  dsimp only
  rw [h1]
  dsimp only
  rw [h2]
  dsimp only
  rw [h3]
  dsimp only
  rw [h4]
  dsimp only
  rw [hs]
theorem R_ri {v : Int32} (hm : mt mi = (cd, nL, some .int)) (he : cd[i]? = some (bp, .ireturn, x, y, j, a, b, ts)) (hq : Q (some (.int v)) h) : R d mi i ls [.int v] h Q := R_ret hm he rfl rfl rfl rfl rfl hq
theorem R_rz {v : Int32} (hm : mt mi = (cd, nL, some .boolean)) (he : cd[i]? = some (bp, .ireturn, x, y, j, a, b, ts)) (hv : v = 0 ∨ v = 1) (hq : Q (some (.int v)) h) : R d mi i ls [.int v] h Q := R_ret hm he rfl rfl rfl rfl (by unfold stepR; dsimp only; rw [if_pos hv]) hq
theorem R_rl {v : Int64} (hm : mt mi = (cd, nL, some .long)) (he : cd[i]? = some (bp, .lreturn, x, y, j, a, b, ts)) (hq : Q (some (.long v)) h) : R d mi i ls [.long v] h Q := R_ret hm he rfl rfl rfl rfl rfl hq
theorem R_ra {v : Nat} {C : String} (hm : mt mi = (cd, nL, some (.object C))) (he : cd[i]? = some (bp, .areturn, x, y, j, a, b, ts)) (hq : Q (some (.ref v)) h) : R d mi i ls [.ref v] h Q := R_ret hm he rfl rfl rfl rfl rfl hq
theorem R_rn {C : String} (hm : mt mi = (cd, nL, some (.object C))) (he : cd[i]? = some (bp, .areturn, x, y, j, a, b, ts)) (hq : Q (some .null) h) : R d mi i ls [.null] h Q := R_ret hm he rfl rfl rfl rfl rfl hq
theorem R_rv (hm : mt mi = (cd, nL, none)) (he : cd[i]? = some (bp, .return_, x, y, j, a, b, ts)) (hq : Q none h) : R d mi i ls [] h Q := R_ret hm he rfl rfl rfl rfl rfl hq
end
/-- a call's whole effect -/
def Cl (d mi : Nat) (av : List Value) (h : AH) (r : Option Value) (h' : AH) : Prop := (av.flatMap slA).length ≤ (mt mi).2.1 ∧ R d mi 0 (enL av (mt mi).2.1) [] h (fun r2 h2 => r2 = r ∧ h2 = h')
theorem Cl_of {d mi nL : Nat} {av : List Value} {h h' : AH} {r : Option Value} {cd : List EI} {ret : Option FieldType} {ls : ALs} (hm : mt mi = (cd, nL, ret)) (hn : Nat.ble (av.flatMap slA).length nL = true) (hl : enL av nL = ls) (k : R d mi 0 ls [] h (fun r2 h2 => r2 = r ∧ h2 = h')) : Cl d mi av h r h' := by
  unfold Cl; rw [hm, hl]; exact ⟨Nat.le_of_ble_eq_true hn, k⟩
section
variable {d mi i nL : Nat} {cd : List EI} {ret : Option FieldType} {bp j a b : Nat} {ins : Instr} {x : Int32} {y : Int64} {ts : List Nat} {ls ls' : ALs} {st st' : List Value} {h h' : AH} {Q : Option Value → AH → Prop}
theorem R_call {k : Nat} {av : List Value} {r : Option Value} (hm : mt mi = (cd, nL, ret)) (he : cd[i]? = some (bp, ins, x, y, j, a, b, ts)) (h1 : step1 ins x y ls st = none) (h2 : stepB ins st = none) (h3 : stepH fty dvl ins a b st h = none) (hs : stepC ins a b ts st h = some (k, av, st')) (hc : Cl d k av h r h') (kk : R (d + 1) mi j ls (r.toList ++ st') h' Q) : R (d + 1) mi i ls st h Q := by
  obtain ⟨hle, n1, r1, h1', e1, rfl, rfl⟩ := hc
  obtain ⟨n2, r2, h2', e2, hq⟩ := kk
  refine ⟨max n1 n2 + 1, r2, h2', ?_, hq⟩
  unfold run
  rw [hm]
  dsimp only
  rw [he]
  dsimp only
  unfold nx
  dsimp only
  rw [h1]
  dsimp only
  rw [h2]
  dsimp only
  rw [h3]
  dsimp only
  rw [hs]
  dsimp only
  rw [if_pos hle, run_mono _ _ _ _ _ _ _ _ _ _ _ e1 (max n1 n2) (Nat.le_max_left _ _)]
  exact run_mono _ _ _ _ _ _ _ _ _ _ _ e2 (max n1 n2) (Nat.le_max_right _ _)
theorem R_cs {ix : Nat} {av : List Value} {r : Option Value} (hm : mt mi = (cd, nL, ret)) (he : cd[i]? = some (bp, .invokestatic ix, x, y, j, a, b, ts)) (hb : (decide (b < 1000) && decide (b ≤ st.length) && decide (unS (st.drop b) ≤ 8)) = true) (ha : (st.take b).reverse = av) (hr : st.drop b = st') (hc : Cl d a av h r h') (kk : R (d + 1) mi j ls (r.toList ++ st') h' Q) : R (d + 1) mi i ls st h Q := by
  simp only [Bool.and_eq_true, decide_eq_true_eq] at hb
  exact R_call hm he rfl rfl rfl (by unfold stepC; dsimp only; rw [if_pos ⟨hb.1.1, hb.1.2, hb.2⟩, ha, hr]) hc kk
theorem R_cv {ix q ci : Nat} {av fs : List Value} {r : Option Value} (hm : mt mi = (cd, nL, ret)) (he : cd[i]? = some (bp, .invokevirtual ix, x, y, j, a, b, [ci])) (hb : (decide (b ≤ st.length) && decide (unS (st.drop b) ≤ 8)) = true) (ha : (st.take b).reverse = .ref q :: av) (hr : st.drop b = st') (ho : h.2 q = .inr (ci, fs)) (h3 : 3 ≤ q) (hc : Cl d a (.ref q :: av) h r h') (kk : R (d + 1) mi j ls (r.toList ++ st') h' Q) : R (d + 1) mi i ls st h Q := by
  simp only [Bool.and_eq_true, decide_eq_true_eq] at hb
  exact R_call hm he rfl rfl rfl (by unfold stepC; dsimp only; rw [if_pos ⟨hb.1, hb.2⟩, ha]; dsimp only; rw [ho]; dsimp only; rw [if_pos ⟨rfl, h3⟩, hr]) hc kk
theorem R_ci {ix q : Nat} {av : List Value} {r : Option Value} (hm : mt mi = (cd, nL, ret)) (he : cd[i]? = some (bp, .invokespecial ix, x, y, j, a, b, ts)) (hb : (decide (b < 1000) && decide (b ≤ st.length) && decide (unS (st.drop b) ≤ 8)) = true) (ha : (st.take b).reverse = .ref q :: av) (hr : st.drop b = st') (hc : Cl d a (.ref q :: av) h r h') (kk : R (d + 1) mi j ls (r.toList ++ st') h' Q) : R (d + 1) mi i ls st h Q := by
  simp only [Bool.and_eq_true, decide_eq_true_eq] at hb
  exact R_call hm he rfl rfl rfl (by unfold stepC; dsimp only; rw [if_pos ⟨hb.1.1, hb.1.2, hb.2⟩, ha]; dsimp only; rw [hr]) hc kk
end
