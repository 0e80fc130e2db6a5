/-! MORE RULES: with numbers that are known to be small -/
abbrev ints (n : Nat) (f : Nat → Int32) : AC := .inl (.int, n, .inl f)
abbrev longs (n : Nat) (f : Nat → Int64) : AC := .inl (.long, n, .inr (.inl f))
abbrev bytesA (n : Nat) (f : Nat → Int32) : AC := .inl (.byte, n, .inl f)
abbrev objA (c : Nat) (fs : List Value) : AC := .inr (c, fs)
def b2i (b : Bool) : Int32 := if b = true then 1 else 0
theorem b2i_01 (b : Bool) : b2i b = 0 ∨ b2i b = 1 := by cases b <;> simp [b2i]
theorem inB_nI {k n : Nat} (hk : k < n) (hn : n < 2 ^ 31) : inB (nI k) n = true := by
  unfold inB
  have h1 := nI_in hk hn
  rw [Bool.not_eq_true', Bool.or_eq_false_iff, decide_eq_false_iff_not, decide_eq_false_iff_not]
  exact ⟨fun q => h1 (Or.inl q), fun q => h1 (Or.inr q)⟩
theorem inB_of {q : Int32} {n : Nat} (h : inB q n = true) (hn : n < 2 ^ 31) : ∃ k, k < n ∧ q = nI k := vp_in_of (inB_in h) hn
theorem inB_not {q : Int32} {n : Nat} (h : inB q n = false) : q < 0 ∨ n ≤ q.toNatClampNeg := by
  unfold inB at h
  rw [Bool.not_eq_false', Bool.or_eq_true, decide_eq_true_eq, decide_eq_true_eq] at h
  exact h
section
variable {d mi i nL : Nat} {cd : List EI} {ret : Option FieldType} {bp j a b : Nat} {ins : Instr} {x : Int32} {y : Int64} {ts : List Nat} {ls ls' : ALs} {st st' : List Value} {h h' : AH} {Q : Option Value → AH → Prop}
theorem R_ild {r n k : Nat} {f : Nat → Int32} {q : Int32} (hm : mt mi = (cd, nL, ret)) (he : cd[i]? = some (bp, .iaload, x, y, j, a, b, ts)) (hc : h.2 r = ints n f) (hq : q = nI k) (hk : k < n) (hn : n < 100000) (kk : R d mi j ls (.int (f k) :: st) h Q) : R d mi i ls (.int q :: .ref r :: st) h Q := by
  subst hq
  refine R_iald hm he hc (inB_nI hk (by omega)) ?_
  rw [nI_clamp (by omega)]
  exact kk
theorem R_lld {r n k : Nat} {f : Nat → Int64} {q : Int32} (hm : mt mi = (cd, nL, ret)) (he : cd[i]? = some (bp, .laload, x, y, j, a, b, ts)) (hc : h.2 r = longs n f) (h3 : 3 ≤ r) (hq : q = nI k) (hk : k < n) (hn : n < 100000) (kk : R d mi j ls (.long (f k) :: st) h Q) : R d mi i ls (.int q :: .ref r :: st) h Q := by
  subst hq
  refine R_lald hm he hc (inB_nI hk (by omega)) h3 ?_
  rw [nI_clamp (by omega)]
  exact kk
theorem R_bld {r n k : Nat} {f : Nat → Int32} {q : Int32} (hm : mt mi = (cd, nL, ret)) (he : cd[i]? = some (bp, .baload, x, y, j, a, b, ts)) (hc : h.2 r = bytesA n f) (h3 : 3 ≤ r) (hq : q = nI k) (hk : k < n) (hn : n < 100000) (kk : R d mi j ls (.int (f k) :: st) h Q) : R d mi i ls (.int q :: .ref r :: st) h Q := by
  subst hq
  refine R_bald hm he hc (inB_nI hk (by omega)) h3 ?_
  rw [nI_clamp (by omega)]
  exact kk
theorem R_ist {r n k : Nat} {f : Nat → Int32} {q : Int32} {v : Int32} (hm : mt mi = (cd, nL, ret)) (he : cd[i]? = some (bp, .iastore, x, y, j, a, b, ts)) (hc : h.2 r = ints n f) (h3 : 3 ≤ r) (hq : q = nI k) (hk : k < n) (hn : n < 100000) (kk : R d mi j ls st (upH h r (ints n (upd f k v))) Q) : R d mi i ls (.int v :: .int q :: .ref r :: st) h Q := by
  subst hq
  refine R_iast hm he hc (inB_nI hk (by omega)) h3 ?_
  rw [nI_clamp (by omega)]
  exact kk
theorem R_lst {r n k : Nat} {f : Nat → Int64} {q : Int32} {v : Int64} (hm : mt mi = (cd, nL, ret)) (he : cd[i]? = some (bp, .lastore, x, y, j, a, b, ts)) (hc : h.2 r = longs n f) (h3 : 3 ≤ r) (hq : q = nI k) (hk : k < n) (hn : n < 100000) (kk : R d mi j ls st (upH h r (longs n (vp_updL f k v))) Q) : R d mi i ls (.long v :: .int q :: .ref r :: st) h Q := by
  subst hq
  refine R_last hm he hc (inB_nI hk (by omega)) h3 ?_
  rw [nI_clamp (by omega)]
  exact kk
theorem R_bst {r n k : Nat} {f : Nat → Int32} {q : Int32} {v : Int32} (hm : mt mi = (cd, nL, ret)) (he : cd[i]? = some (bp, .bastore, x, y, j, a, b, ts)) (hc : h.2 r = bytesA n f) (h3 : 3 ≤ r) (hq : q = nI k) (hk : k < n) (hn : n < 100000) (kk : R d mi j ls st (upH h r (bytesA n (upd f k (vp_nar .byte v)))) Q) : R d mi i ls (.int v :: .int q :: .ref r :: st) h Q := by
  subst hq
  refine R_bast hm he hc (inB_nI hk (by omega)) h3 ?_
  rw [nI_clamp (by omega)]
  exact kk
theorem Rr_eq {off : Int} {u v : Int32} (hm : mt mi = (cd, nL, ret)) (he : cd[i]? = some (bp, .if_icmp .eq off, x, y, j, a, b, ts)) (kt : u = v → R d mi a ls st h Q) (kf : ¬ u = v → R d mi j ls st h Q) : R d mi i ls (.int v :: .int u :: st) h Q :=
  R_b hm he rfl rfl (fun hc => kt (by simpa [cmpI] using hc)) (fun hc => kf (by simpa [cmpI] using hc))
theorem R_eq {off : Int} {u v : Nat} {xu xv : Int32} (hm : mt mi = (cd, nL, ret)) (he : cd[i]? = some (bp, .if_icmp .eq off, x, y, j, a, b, ts)) (hxu : xu = nI u) (hxv : xv = nI v) (hu : u < 2 ^ 31) (hv : v < 2 ^ 31) (kt : u = v → R d mi a ls st h Q) (kf : ¬ u = v → R d mi j ls st h Q) : R d mi i ls (.int xv :: .int xu :: st) h Q := by
  subst hxu; subst hxv
  exact Rr_eq hm he (fun hc => kt (by rw [nI_eq hu hv] at hc; omega)) (fun hc => kf (by rw [nI_eq hu hv] at hc; omega))
theorem Zr_eq {off : Int} {u : Int32} (hm : mt mi = (cd, nL, ret)) (he : cd[i]? = some (bp, .ifCond .eq off, x, y, j, a, b, ts)) (kt : u = 0 → R d mi a ls st h Q) (kf : ¬ u = 0 → R d mi j ls st h Q) : R d mi i ls (.int u :: st) h Q :=
  R_b hm he rfl rfl (fun hc => kt (by simpa [cmpI] using hc)) (fun hc => kf (by simpa [cmpI] using hc))
theorem Z_eq {off : Int} {u : Nat} {xu : Int32} (hm : mt mi = (cd, nL, ret)) (he : cd[i]? = some (bp, .ifCond .eq off, x, y, j, a, b, ts)) (hxu : xu = nI u) (hu : u < 2 ^ 31) (kt : u = 0 → R d mi a ls st h Q) (kf : ¬ u = 0 → R d mi j ls st h Q) : R d mi i ls (.int xu :: st) h Q := by
  subst hxu
  exact Zr_eq hm he (fun hc => kt (by rw [← nI_0, nI_eq hu (Nat.zero_lt_of_lt hu)] at hc; omega)) (fun hc => kf (by rw [← nI_0, nI_eq hu (Nat.zero_lt_of_lt hu)] at hc; omega))
theorem Rr_ne {off : Int} {u v : Int32} (hm : mt mi = (cd, nL, ret)) (he : cd[i]? = some (bp, .if_icmp .ne off, x, y, j, a, b, ts)) (kt : ¬ u = v → R d mi a ls st h Q) (kf : u = v → R d mi j ls st h Q) : R d mi i ls (.int v :: .int u :: st) h Q :=
  R_b hm he rfl rfl (fun hc => kt (by simpa [cmpI] using hc)) (fun hc => kf (by simpa [cmpI] using hc))
theorem R_ne {off : Int} {u v : Nat} {xu xv : Int32} (hm : mt mi = (cd, nL, ret)) (he : cd[i]? = some (bp, .if_icmp .ne off, x, y, j, a, b, ts)) (hxu : xu = nI u) (hxv : xv = nI v) (hu : u < 2 ^ 31) (hv : v < 2 ^ 31) (kt : ¬ u = v → R d mi a ls st h Q) (kf : u = v → R d mi j ls st h Q) : R d mi i ls (.int xv :: .int xu :: st) h Q := by
  subst hxu; subst hxv
  exact Rr_ne hm he (fun hc => kt (by rw [nI_eq hu hv] at hc; omega)) (fun hc => kf (by rw [nI_eq hu hv] at hc; omega))
theorem Zr_ne {off : Int} {u : Int32} (hm : mt mi = (cd, nL, ret)) (he : cd[i]? = some (bp, .ifCond .ne off, x, y, j, a, b, ts)) (kt : ¬ u = 0 → R d mi a ls st h Q) (kf : u = 0 → R d mi j ls st h Q) : R d mi i ls (.int u :: st) h Q :=
  R_b hm he rfl rfl (fun hc => kt (by simpa [cmpI] using hc)) (fun hc => kf (by simpa [cmpI] using hc))
theorem Z_ne {off : Int} {u : Nat} {xu : Int32} (hm : mt mi = (cd, nL, ret)) (he : cd[i]? = some (bp, .ifCond .ne off, x, y, j, a, b, ts)) (hxu : xu = nI u) (hu : u < 2 ^ 31) (kt : ¬ u = 0 → R d mi a ls st h Q) (kf : u = 0 → R d mi j ls st h Q) : R d mi i ls (.int xu :: st) h Q := by
  subst hxu
  exact Zr_ne hm he (fun hc => kt (by rw [← nI_0, nI_eq hu (Nat.zero_lt_of_lt hu)] at hc; omega)) (fun hc => kf (by rw [← nI_0, nI_eq hu (Nat.zero_lt_of_lt hu)] at hc; omega))
theorem Rr_lt {off : Int} {u v : Int32} (hm : mt mi = (cd, nL, ret)) (he : cd[i]? = some (bp, .if_icmp .lt off, x, y, j, a, b, ts)) (kt : u < v → R d mi a ls st h Q) (kf : ¬ u < v → R d mi j ls st h Q) : R d mi i ls (.int v :: .int u :: st) h Q :=
  R_b hm he rfl rfl (fun hc => kt (by simpa [cmpI] using hc)) (fun hc => kf (by simpa [cmpI] using hc))
theorem R_lt {off : Int} {u v : Nat} {xu xv : Int32} (hm : mt mi = (cd, nL, ret)) (he : cd[i]? = some (bp, .if_icmp .lt off, x, y, j, a, b, ts)) (hxu : xu = nI u) (hxv : xv = nI v) (hu : u < 2 ^ 31) (hv : v < 2 ^ 31) (kt : u < v → R d mi a ls st h Q) (kf : v ≤ u → R d mi j ls st h Q) : R d mi i ls (.int xv :: .int xu :: st) h Q := by
  subst hxu; subst hxv
  exact Rr_lt hm he (fun hc => kt (by rw [nI_ltI hu hv] at hc; omega)) (fun hc => kf (by rw [nI_ltI hu hv] at hc; omega))
theorem Zr_lt {off : Int} {u : Int32} (hm : mt mi = (cd, nL, ret)) (he : cd[i]? = some (bp, .ifCond .lt off, x, y, j, a, b, ts)) (kt : u < 0 → R d mi a ls st h Q) (kf : ¬ u < 0 → R d mi j ls st h Q) : R d mi i ls (.int u :: st) h Q :=
  R_b hm he rfl rfl (fun hc => kt (by simpa [cmpI] using hc)) (fun hc => kf (by simpa [cmpI] using hc))
theorem Z_lt {off : Int} {u : Nat} {xu : Int32} (hm : mt mi = (cd, nL, ret)) (he : cd[i]? = some (bp, .ifCond .lt off, x, y, j, a, b, ts)) (hxu : xu = nI u) (hu : u < 2 ^ 31) (kt : u < 0 → R d mi a ls st h Q) (kf : 0 ≤ u → R d mi j ls st h Q) : R d mi i ls (.int xu :: st) h Q := by
  subst hxu
  exact Zr_lt hm he (fun hc => kt (by rw [← nI_0, nI_ltI hu (Nat.zero_lt_of_lt hu)] at hc; omega)) (fun hc => kf (by rw [← nI_0, nI_ltI hu (Nat.zero_lt_of_lt hu)] at hc; omega))
theorem Rr_ge {off : Int} {u v : Int32} (hm : mt mi = (cd, nL, ret)) (he : cd[i]? = some (bp, .if_icmp .ge off, x, y, j, a, b, ts)) (kt : v ≤ u → R d mi a ls st h Q) (kf : ¬ v ≤ u → R d mi j ls st h Q) : R d mi i ls (.int v :: .int u :: st) h Q :=
  R_b hm he rfl rfl (fun hc => kt (by simpa [cmpI] using hc)) (fun hc => kf (by simpa [cmpI] using hc))
theorem R_ge {off : Int} {u v : Nat} {xu xv : Int32} (hm : mt mi = (cd, nL, ret)) (he : cd[i]? = some (bp, .if_icmp .ge off, x, y, j, a, b, ts)) (hxu : xu = nI u) (hxv : xv = nI v) (hu : u < 2 ^ 31) (hv : v < 2 ^ 31) (kt : v ≤ u → R d mi a ls st h Q) (kf : u < v → R d mi j ls st h Q) : R d mi i ls (.int xv :: .int xu :: st) h Q := by
  subst hxu; subst hxv
  exact Rr_ge hm he (fun hc => kt (by rw [nI_leI hv hu] at hc; omega)) (fun hc => kf (by rw [nI_leI hv hu] at hc; omega))
theorem Zr_ge {off : Int} {u : Int32} (hm : mt mi = (cd, nL, ret)) (he : cd[i]? = some (bp, .ifCond .ge off, x, y, j, a, b, ts)) (kt : 0 ≤ u → R d mi a ls st h Q) (kf : ¬ 0 ≤ u → R d mi j ls st h Q) : R d mi i ls (.int u :: st) h Q :=
  R_b hm he rfl rfl (fun hc => kt (by simpa [cmpI] using hc)) (fun hc => kf (by simpa [cmpI] using hc))
theorem Z_ge {off : Int} {u : Nat} {xu : Int32} (hm : mt mi = (cd, nL, ret)) (he : cd[i]? = some (bp, .ifCond .ge off, x, y, j, a, b, ts)) (hxu : xu = nI u) (hu : u < 2 ^ 31) (kt : 0 ≤ u → R d mi a ls st h Q) (kf : u < 0 → R d mi j ls st h Q) : R d mi i ls (.int xu :: st) h Q := by
  subst hxu
  exact Zr_ge hm he (fun hc => kt (by rw [← nI_0, nI_leI (Nat.zero_lt_of_lt hu) hu] at hc; omega)) (fun hc => kf (by rw [← nI_0, nI_leI (Nat.zero_lt_of_lt hu) hu] at hc; omega))
theorem Rr_gt {off : Int} {u v : Int32} (hm : mt mi = (cd, nL, ret)) (he : cd[i]? = some (bp, .if_icmp .gt off, x, y, j, a, b, ts)) (kt : v < u → R d mi a ls st h Q) (kf : ¬ v < u → R d mi j ls st h Q) : R d mi i ls (.int v :: .int u :: st) h Q :=
  R_b hm he rfl rfl (fun hc => kt (by simpa [cmpI] using hc)) (fun hc => kf (by simpa [cmpI] using hc))
theorem R_gt {off : Int} {u v : Nat} {xu xv : Int32} (hm : mt mi = (cd, nL, ret)) (he : cd[i]? = some (bp, .if_icmp .gt off, x, y, j, a, b, ts)) (hxu : xu = nI u) (hxv : xv = nI v) (hu : u < 2 ^ 31) (hv : v < 2 ^ 31) (kt : v < u → R d mi a ls st h Q) (kf : u ≤ v → R d mi j ls st h Q) : R d mi i ls (.int xv :: .int xu :: st) h Q := by
  subst hxu; subst hxv
  exact Rr_gt hm he (fun hc => kt (by rw [nI_ltI hv hu] at hc; omega)) (fun hc => kf (by rw [nI_ltI hv hu] at hc; omega))
theorem Zr_gt {off : Int} {u : Int32} (hm : mt mi = (cd, nL, ret)) (he : cd[i]? = some (bp, .ifCond .gt off, x, y, j, a, b, ts)) (kt : 0 < u → R d mi a ls st h Q) (kf : ¬ 0 < u → R d mi j ls st h Q) : R d mi i ls (.int u :: st) h Q :=
  R_b hm he rfl rfl (fun hc => kt (by simpa [cmpI] using hc)) (fun hc => kf (by simpa [cmpI] using hc))
theorem Z_gt {off : Int} {u : Nat} {xu : Int32} (hm : mt mi = (cd, nL, ret)) (he : cd[i]? = some (bp, .ifCond .gt off, x, y, j, a, b, ts)) (hxu : xu = nI u) (hu : u < 2 ^ 31) (kt : 0 < u → R d mi a ls st h Q) (kf : u ≤ 0 → R d mi j ls st h Q) : R d mi i ls (.int xu :: st) h Q := by
  subst hxu
  exact Zr_gt hm he (fun hc => kt (by rw [← nI_0, nI_ltI (Nat.zero_lt_of_lt hu) hu] at hc; omega)) (fun hc => kf (by rw [← nI_0, nI_ltI (Nat.zero_lt_of_lt hu) hu] at hc; omega))
theorem Rr_le {off : Int} {u v : Int32} (hm : mt mi = (cd, nL, ret)) (he : cd[i]? = some (bp, .if_icmp .le off, x, y, j, a, b, ts)) (kt : u ≤ v → R d mi a ls st h Q) (kf : ¬ u ≤ v → R d mi j ls st h Q) : R d mi i ls (.int v :: .int u :: st) h Q :=
  R_b hm he rfl rfl (fun hc => kt (by simpa [cmpI] using hc)) (fun hc => kf (by simpa [cmpI] using hc))
theorem R_le {off : Int} {u v : Nat} {xu xv : Int32} (hm : mt mi = (cd, nL, ret)) (he : cd[i]? = some (bp, .if_icmp .le off, x, y, j, a, b, ts)) (hxu : xu = nI u) (hxv : xv = nI v) (hu : u < 2 ^ 31) (hv : v < 2 ^ 31) (kt : u ≤ v → R d mi a ls st h Q) (kf : v < u → R d mi j ls st h Q) : R d mi i ls (.int xv :: .int xu :: st) h Q := by
  subst hxu; subst hxv
  exact Rr_le hm he (fun hc => kt (by rw [nI_leI hu hv] at hc; omega)) (fun hc => kf (by rw [nI_leI hu hv] at hc; omega))
theorem Zr_le {off : Int} {u : Int32} (hm : mt mi = (cd, nL, ret)) (he : cd[i]? = some (bp, .ifCond .le off, x, y, j, a, b, ts)) (kt : u ≤ 0 → R d mi a ls st h Q) (kf : ¬ u ≤ 0 → R d mi j ls st h Q) : R d mi i ls (.int u :: st) h Q :=
  R_b hm he rfl rfl (fun hc => kt (by simpa [cmpI] using hc)) (fun hc => kf (by simpa [cmpI] using hc))
theorem Z_le {off : Int} {u : Nat} {xu : Int32} (hm : mt mi = (cd, nL, ret)) (he : cd[i]? = some (bp, .ifCond .le off, x, y, j, a, b, ts)) (hxu : xu = nI u) (hu : u < 2 ^ 31) (kt : u ≤ 0 → R d mi a ls st h Q) (kf : 0 < u → R d mi j ls st h Q) : R d mi i ls (.int xu :: st) h Q := by
  subst hxu
  exact Zr_le hm he (fun hc => kt (by rw [← nI_0, nI_leI hu (Nat.zero_lt_of_lt hu)] at hc; omega)) (fun hc => kf (by rw [← nI_0, nI_leI hu (Nat.zero_lt_of_lt hu)] at hc; omega))
theorem ZB_eq {off : Int} {q : Bool} (hm : mt mi = (cd, nL, ret)) (he : cd[i]? = some (bp, .ifCond .eq off, x, y, j, a, b, ts)) (kt : q = false → R d mi a ls st h Q) (kf : q = true → R d mi j ls st h Q) : R d mi i ls (.int (b2i q) :: st) h Q :=
  Zr_eq hm he (fun hc => kt (by cases q <;> simp_all [b2i])) (fun hc => kf (by cases q <;> simp_all [b2i]))
theorem ZB_ne {off : Int} {q : Bool} (hm : mt mi = (cd, nL, ret)) (he : cd[i]? = some (bp, .ifCond .ne off, x, y, j, a, b, ts)) (kt : q = true → R d mi a ls st h Q) (kf : q = false → R d mi j ls st h Q) : R d mi i ls (.int (b2i q) :: st) h Q :=
  Zr_ne hm he (fun hc => kt (by cases q <;> simp_all [b2i])) (fun hc => kf (by cases q <;> simp_all [b2i]))
theorem R_rb {q : Bool} (hm : mt mi = (cd, nL, some .boolean)) (he : cd[i]? = some (bp, .ireturn, x, y, j, a, b, ts)) (hq : Q (some (.int (b2i q))) h) : R d mi i ls [.int (b2i q)] h Q := R_rz hm he (b2i_01 q) hq
theorem R_new {ix : Nat} (hm : mt mi = (cd, nL, ret)) (he : cd[i]? = some (bp, .new ix, x, y, j, a, b, ts)) (k : R d mi j ls (.ref h.1.1 :: st) (alH h (objA a (dvl a))) Q) : R d mi i ls st h Q :=
  R_h hm he rfl rfl rfl k
theorem R_nwi {n : Nat} {q : Int32} (hm : mt mi = (cd, nL, ret)) (he : cd[i]? = some (bp, .newarray .int, x, y, j, a, b, ts)) (hq : q = nI n) (hn : n < 100000) (k : R d mi j ls (.ref h.1.1 :: st) (alH h (ints n (fun _ => 0))) Q) : R d mi i ls (.int q :: st) h Q := by
  subst hq
  refine R_h hm he rfl rfl (by unfold stepH; dsimp only; rw [if_pos (inB_nI hn (by omega)), nI_clamp (by omega)]) k
theorem R_nwl {n : Nat} {q : Int32} (hm : mt mi = (cd, nL, ret)) (he : cd[i]? = some (bp, .newarray .long, x, y, j, a, b, ts)) (hq : q = nI n) (hn : n < 100000) (k : R d mi j ls (.ref h.1.1 :: st) (alH h (longs n (fun _ => 0))) Q) : R d mi i ls (.int q :: st) h Q := by
  subst hq
  refine R_h hm he rfl rfl (by unfold stepH; dsimp only; rw [if_pos (inB_nI hn (by omega)), nI_clamp (by omega)]) k
theorem R_nwb {n : Nat} {q : Int32} (hm : mt mi = (cd, nL, ret)) (he : cd[i]? = some (bp, .newarray .byte, x, y, j, a, b, ts)) (hq : q = nI n) (hn : n < 100000) (k : R d mi j ls (.ref h.1.1 :: st) (alH h (bytesA n (fun _ => 0))) Q) : R d mi i ls (.int q :: st) h Q := by
  subst hq
  refine R_h hm he rfl rfl (by unfold stepH; dsimp only; rw [if_pos (inB_nI hn (by omega)), nI_clamp (by omega)]) k
theorem R_nwr {n ix : Nat} {q : Int32} (hm : mt mi = (cd, nL, ret)) (he : cd[i]? = some (bp, .anewarray ix, x, y, j, a, b, ts)) (hq : q = nI n) (hn : n < 100000) (k : R d mi j ls (.ref h.1.1 :: st) (alH h (.inl (tpT, n, .inr (.inr (.inr (.inr (fun _ => none))))))) Q) : R d mi i ls (.int q :: st) h Q := by
  subst hq
  refine R_h hm he rfl rfl (by unfold stepH; dsimp only; rw [if_pos (inB_nI hn (by omega)), nI_clamp (by omega)]; rfl) k
theorem R_obi {ix r : Nat} (hm : mt mi = (cd, nL, ret)) (he : cd[i]? = some (bp, .invokespecial ix, x, y, j, a, 1001, ts)) (hu : unS st ≤ 8) (k : R d mi j ls st h Q) : R d mi i ls (.ref r :: st) h Q :=
  R_nx hm he (by unfold nx; dsimp only [step1, stepB, stepH, stepC, stepR, stepD, stepW, stepO]; rw [if_neg (by omega), if_pos rfl, if_pos hu]) k
theorem R_sw {df lo hi : Int} {offs : Array Int} {v : Int32} {t : Nat} (hm : mt mi = (cd, nL, ret)) (he : cd[i]? = some (bp, .tableswitch df lo hi offs, x, y, j, a, b, ts)) (ht : (if v.toInt < lo ∨ hi < v.toInt then ts[0]? else ts[(v.toInt - lo).toNat + 1]?) = some t) (k : R d mi t ls st h Q) : R d mi i ls (.int v :: st) h Q :=
  R_nx hm he (by unfold nx; dsimp only [step1, stepB, stepH, stepC, stepR, stepD, stepW]; rw [ht]; rfl) k
end
