/-! 3: the cells -/
def tpT : FieldType := .object "NestedBodies$Tape"
def tysL (cA : FieldType → ClassId) : List (ClassId × FieldType) := [(cA .int, .int), (cA .long, .long), (cA .byte, .byte), (cA tpT, tpT)]
/-- the classes' facts, by their numbers -/
noncomputable def clH (ci : Nat) : List Nat := ([[307, 309, 311, 313, 315, 317, 319, 321], [234, 236, 238, 240, 242, 244, 246, 248, 250, 252, 254, 256, 258, 260], [144, 146, 148], [210, 212, 214, 216], [165, 167, 169], [183, 185, 187, 189, 191], [292, 294, 296], [274, 276], [967, 969, 971, 973, 975, 977, 979, 981, 983, 985, 987, 989, 991, 993, 995, 997, 999, 1001, 1003, 1005, 1007, 1009, 1011, 1013]] : List (List Nat)).getD ci []
theorem cl_lays : ∀ ci, ci < 9 → (List.range (clS ci)).all (fun k => wAt ((clH ci).getD k 0) (u_lay (clN ci) (clF ci) k)) = true := by decide +kernel
theorem cl_ws {ci : Nat} (h : ci < 9) : ∀ w ∈ u_ws (clN ci) (clF ci) (clS ci), w ∈ gtb := by
  intro w hw
  obtain ⟨k, hk, rfl⟩ := List.mem_map.mp hw
  have h1 := List.all_eq_true.mp (cl_lays ci h) k hk
  exact wAt_mem h1
theorem cl_at {ci : Nat} (h : ci < 9) : clT[ci]? = some (clN ci, clF ci, clS ci) := by
  match ci, h with
  | 0, _ => rfl
  | 1, _ => rfl
  | 2, _ => rfl
  | 3, _ => rfl
  | 4, _ => rfl
  | 5, _ => rfl
  | 6, _ => rfl
  | 7, _ => rfl
  | 8, _ => rfl
theorem cl_lt {ci : Nat} {r : vw_C} (h : clT[ci]? = some r) : ci < 9 := by
  have := (List.getElem?_eq_some_iff.mp h).1
  exact this
theorem cl_ty : ∀ ci, ci < 9 → ∀ k, k < clS ci → parseFieldDescriptor (clF ci k).2.2.1 = some (fty ci k) := by decide +kernel
theorem cl_nm : ∀ ci, ci < 9 → ∀ a, a < clS ci → ∀ b, b < clS ci → a ≠ b → (clF ci a).2.1 ≠ (clF ci b).2.1 := by decide +kernel
theorem cl_dv : ∀ ci, ci < 9 → ∀ k, k < clS ci → defaultValue (fty ci k) = vp_V (dvl ci) k := by decide +kernel
theorem cl_dvn : ∀ ci, ci < 9 → (dvl ci).length = clS ci := by decide +kernel
def notRef (v : Value) : Bool := match v with
  | .ref _ => false
  | _ => true
theorem cl_dvr : ∀ ci, ci < 9 → (dvl ci).all notRef = true := by decide +kernel
theorem cl_ins : ∀ ci, ci < 9 → wAt (([92, 195, 106, 201, 152, 100, 282, 266, 898] : List Nat).getD ci 0) (.instantiable (clN ci) (clS ci)) = true := by decide +kernel
theorem cl_ini : ∀ ci, ci < 9 → wAt (([79, 84, 81, 85, 82, 80, 87, 86, 88] : List Nat).getD ci 0) (.initialized (clN ci)) = true := by decide +kernel
theorem aw_int : wAt 172 (.arrayClass .int) = true := by decide +kernel
theorem aw_long : wAt 219 (.arrayClass .long) = true := by decide +kernel
theorem aw_byte : wAt 279 (.arrayClass .byte) = true := by decide +kernel
theorem dvl_vz (ρ : Nat → Nat) {ci : Nat} (h : ci < 9) : (dvl ci).map (vz ρ) = dvl ci := by
  have h1 := List.all_eq_true.mp (cl_dvr ci h)
  have : ∀ l : List Value, (∀ v ∈ l, notRef v = true) → l.map (vz ρ) = l := by
    intro l
    induction l with
    | nil => intro _; rfl
    | cons v l ih =>
      intro hl
      rw [List.map_cons, ih (fun w hw => hl w (List.mem_cons_of_mem _ hw))]
      congr 1
      cases v with
      | ref r => have h0 := hl (.ref r) List.mem_cons_self; cases h0
      | _ => rfl
  exact this _ h1
/-- a row that nobody writes -/
def xrl (b L : Nat) (xs : Nat → Int32) (U : State) (H : Heap) : Prop := ∃ scr : Cell, H[b]? = some scr ∧ U.isArrayOf scr .int ∧ scr.vm ≠ .unknown ∧ L ≤ scr.slots.size ∧ scr.slots.size.toInt32 = nI L ∧ ∀ j : Nat, j < L → scr.slots[j]? = some (.int (xs j))
theorem xrl.kept {b L : Nat} {xs : Nat → Int32} {U : State} {H H1 : Heap} (h : xrl b L xs U H) (hq : H1[b]? = H[b]?) : xrl b L xs U H1 := by
  obtain ⟨scr, h1, h2⟩ := h
  exact ⟨scr, by rw [hq]; exact h1, h2⟩
theorem xrl.moved {b L : Nat} {xs : Nat → Int32} {u U : State} {H : Heap} (hvm : u.vm.Alike U.vm) (h : xrl b L xs u H) : xrl b L xs U H := by
  obtain ⟨scr, h1, h2, h3⟩ := h
  exact ⟨scr, h1, State.isArrayOf_alike hvm h2, h3⟩
def HRel (B hv tn sb : Nat) (cA : FieldType → ClassId) (D : va_G) (U : State) (h : AH) (H : Heap) : Prop :=
  3 ≤ h.1.1 ∧ H.size = B + (h.1.1 - 3) ∧ (∀ r, 3 ≤ r → r < h.1.1 → va_at D clT (rho B hv tn sb r, cz (rho B hv tn sb) cA (h.2 r)) H) ∧ (∀ r, h.1.1 ≤ r → h.2 r = .inr (99, [])) ∧
  (∀ r, r < 3 → ∃ (n : Nat) (f : Nat → Int32), h.2 r = .inl (.int, n, .inl f) ∧ xrl (rho B hv tn sb r) n f U H ∧ rho B hv tn sb r < B) ∧
  (∀ r t n z, h.2 r = .inl (t, n, z) → t = .int ∨ t = .long ∨ t = .byte ∨ t = tpT)
theorem rho3 {B hv tn sb r : Nat} (h : 3 ≤ r) : rho B hv tn sb r = B + (r - 3) := by
  obtain ⟨k, rfl⟩ : ∃ k, r = k + 3 := ⟨r - 3, by omega⟩
  rfl
theorem HRel.live {B hv tn sb : Nat} {cA : FieldType → ClassId} {D : va_G} {U : State} {h : AH} {H : Heap} (hR : HRel B hv tn sb cA D U h H) {r : Nat} {c : AC} (hc : h.2 r = c) (hne : c ≠ .inr (99, [])) : r < h.1.1 := by
  rcases Nat.lt_or_ge r h.1.1 with q | q
  · exact q
  · exact absurd ((hc.symm.trans (hR.2.2.2.1 r q))) hne
theorem HRel.obj {B hv tn sb : Nat} {cA : FieldType → ClassId} {D : va_G} {U : State} {h : AH} {H : Heap} (hR : HRel B hv tn sb cA D U h H) {r b : Nat} {fs : List Value} (hc : h.2 r = .inr (b, fs)) (hb : b < 9) : 3 ≤ r ∧ r < h.1.1 ∧ va_at D clT (rho B hv tn sb r, .inr (b, fs.map (vz (rho B hv tn sb)))) H := by
  have h1 : r < h.1.1 := hR.live hc (fun e => by cases e; omega)
  have h3 : 3 ≤ r := by
    rcases Nat.lt_or_ge r 3 with q | q
    · obtain ⟨n, f, e, -⟩ := hR.2.2.2.2.1 r q
      rw [hc] at e
      cases e
    · exact q
  have h2 := hR.2.2.1 r h3 h1
  rw [hc] at h2
  exact ⟨h3, h1, h2⟩
theorem HRel.arr {B hv tn sb : Nat} {cA : FieldType → ClassId} {D : va_G} {U : State} {h : AH} {H : Heap} (hR : HRel B hv tn sb cA D U h H) {r : Nat} {z : FieldType × vp_A} (hc : h.2 r = .inl z) (h3 : 3 ≤ r) : r < h.1.1 ∧ va_at D clT (rho B hv tn sb r, cz (rho B hv tn sb) cA (.inl z)) H := by
  have h1 : r < h.1.1 := hR.live hc (fun e => by cases e)
  have h2 := hR.2.2.1 r h3 h1
  rw [hc] at h2
  exact ⟨h1, h2⟩
/-- one cell changes -/
theorem HRel.up {B hv tn sb : Nat} {cA : FieldType → ClassId} {D : va_G} {U : State} {h : AH} {H H1 : Heap} {c : AC} {r : Nat} (hR : HRel B hv tn sb cA D U h H) (h3 : 3 ≤ r) (hr : r < h.1.1) (hat : va_at D clT (rho B hv tn sb r, cz (rho B hv tn sb) cA c) H1) (z : H1.size = H.size) (oq : ∀ q : Nat, q ≠ rho B hv tn sb r → H1[q]? = H[q]?)
    (hty : ∀ t n w, c = .inl (t, n, w) → t = .int ∨ t = .long ∨ t = .byte ∨ t = tpT) : HRel B hv tn sb cA D U (upH h r c) H1 := by
  obtain ⟨a1, a2, a3, a4, a5, a6⟩ := hR
  refine ⟨a1, by rw [z]; exact a2, fun q q3 ql => ?_, fun q hq => ?_, fun q hq => ?_, fun q t n w hq => ?_⟩
  · by_cases e : q = r
    · subst e
      show va_at D clT (_, cz _ cA (if q = q then c else h.2 q)) H1
      rw [if_pos rfl]
      exact hat
    · show va_at D clT (_, cz _ cA (if q = r then c else h.2 q)) H1
      rw [if_neg e]
      refine (a3 q q3 ql).kept (oq _ ?_)
      show rho B hv tn sb q ≠ rho B hv tn sb r
      rw [rho3 q3, rho3 h3]
      omega
  · show (if q = r then c else h.2 q) = _
    have hq' : h.1.1 ≤ q := hq
    rw [if_neg (by omega)]
    exact a4 q hq
  · obtain ⟨n, f, e1, e2, e3⟩ := a5 q hq
    refine ⟨n, f, ?_, e2.kept (oq _ ?_), e3⟩
    · show (if q = r then c else h.2 q) = _
      rw [if_neg (by omega)]
      exact e1
    · rw [rho3 h3]
      omega
  · have hq : (if q = r then c else h.2 q) = .inl (t, n, w) := hq
    by_cases e : q = r
    · rw [if_pos e] at hq
      exact hty t n w hq
    · rw [if_neg e] at hq
      exact a6 q t n w hq
/-- a cell comes -/
theorem HRel.al {B hv tn sb : Nat} {cA : FieldType → ClassId} {D : va_G} {U : State} {h : AH} {H H1 : Heap} {c : AC} (hR : HRel B hv tn sb cA D U h H) (hat : va_at D clT (H.size, cz (rho B hv tn sb) cA c) H1) (z : H1.size = H.size + 1) (oq : ∀ q : Nat, q < H.size → H1[q]? = H[q]?)
    (hty : ∀ t n w, c = .inl (t, n, w) → t = .int ∨ t = .long ∨ t = .byte ∨ t = tpT) : HRel B hv tn sb cA D U (alH h c) H1 ∧ rho B hv tn sb h.1.1 = H.size := by
  obtain ⟨a1, a2, a3, a4, a5, a6⟩ := hR
  have hn : rho B hv tn sb h.1.1 = H.size := by rw [rho3 a1, a2]
  refine ⟨⟨by show 3 ≤ h.1.1 + 1; omega, by show H1.size = B + (h.1.1 + 1 - 3); omega, fun q q3 ql => ?_, fun q hq => ?_, fun q hq => ?_, fun q t n w hq => ?_⟩, hn⟩
  · have ql : q < h.1.1 + 1 := ql
    show va_at D clT (_, cz _ cA (if q = h.1.1 then c else h.2 q)) H1
    by_cases e : q = h.1.1
    · rw [if_pos e, e, hn]
      exact hat
    · rw [if_neg e]
      refine (a3 q q3 (by omega)).kept (oq _ ?_)
      show rho B hv tn sb q < _
      rw [rho3 q3]
      omega
  · have hq : h.1.1 + 1 ≤ q := hq
    show (if q = h.1.1 then c else h.2 q) = _
    rw [if_neg (by omega)]
    exact a4 q (by omega)
  · obtain ⟨n, f, e1, e2, e3⟩ := a5 q hq
    refine ⟨n, f, ?_, e2.kept (oq _ (by omega)), e3⟩
    show (if q = h.1.1 then c else h.2 q) = _
    rw [if_neg (by omega)]
    exact e1
  · have hq : (if q = h.1.1 then c else h.2 q) = .inl (t, n, w) := hq
    by_cases e : q = h.1.1
    · rw [if_pos e] at hq
      exact hty t n w hq
    · rw [if_neg e] at hq
      exact a6 q t n w hq
theorem okV_ok {ty : FieldType} {v : Value} (ρ : Nat → Nat) (h : okV ty v = true) : narrow ty (vz ρ v) = vz ρ v ∧ fits ty (vz ρ v) = true := by
  unfold okV at h
  split at h
  · exact ⟨rfl, rfl⟩
  · exact ⟨rfl, rfl⟩
  · rw [decide_eq_true_eq] at h
    rcases h with rfl | rfl <;> exact ⟨rfl, rfl⟩
  · exact ⟨rfl, rfl⟩
  · exact ⟨rfl, rfl⟩
  · exact ⟨rfl, rfl⟩
  · cases h
theorem inB_in {i : Int32} {n : Nat} (h : inB i n = true) : vp_in i n := by
  unfold inB at h
  rw [Bool.not_eq_true', Bool.or_eq_false_iff, decide_eq_false_iff_not, decide_eq_false_iff_not] at h
  exact fun q => q.elim h.1 h.2
