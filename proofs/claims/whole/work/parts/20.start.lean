/-! FROM THE SMALL MACHINE'S RUN OF THE LAW TO THE CLAIM -/
def havF (j : Nat) : Int32 := ([-1431655766, -858993460, -252645136, -16711936, -65536] : List Int32).getD j 0
def tenF (j : Nat) : Int32 := ([1, 10, 100, 1000, 10000] : List Int32).getD j 0
def h0A (L : Nat) (xs : Nat → Int32) : AH := ((3, 0), fun r => match r with
  | 0 => .inl (.int, 5, .inl havF)
  | 1 => .inl (.int, 5, .inl tenF)
  | 2 => .inl (.int, L, .inl xs)
  | _ => .inr (99, []))
/-- what is left: the small machine's own run of the law -/
def LawRuns : Prop := ∀ (L : Nat) (xs : Nat → Int32), L ≤ 3072 → ∃ (n : Nat) (h' : AH), run fty dvl mt n 60 248 0 (enL [.ref 2] 4) [] (h0A L xs) = some (some (.int 1), h') ∧ h'.1.1 ≤ 600003 ∧ h'.1.2 ≤ 7302250
theorem st_lays0 : Cond.laysStatic "NestedBodies" "HAVING" "[I" ∈ lw_tbl := List.mem_of_getElem? (i := 381) (by decide +kernel)
theorem st_lays1 : Cond.laysStatic "NestedBodies" "TENS" "[I" ∈ lw_tbl := List.mem_of_getElem? (i := 604) (by decide +kernel)
theorem st_over : Cond.arrayOver (.object "NestedBodies$Tape") ∈ lw_tbl := List.mem_of_getElem? (i := 281) (by decide +kernel)
theorem nar_h : ∀ j : Nat, j < 5 → Jvm.Cond.eq (.elem (.static "NestedBodies" "HAVING" "[I") (.int (Int32.ofNat j))) (.int (havF j)) ∈ flatC (Jvm.Cond.and given_1 narrow_1) := by decide +kernel
theorem nar_t : ∀ j : Nat, j < 5 → Jvm.Cond.eq (.elem (.static "NestedBodies" "TENS" "[I") (.int (Int32.ofNat j))) (.int (tenF j)) ∈ flatC (Jvm.Cond.and given_1 narrow_1) := by decide +kernel
theorem nar_hl : Jvm.Cond.eq (.length (.static "NestedBodies" "HAVING" "[I")) (.int 5) ∈ flatC (Jvm.Cond.and given_1 narrow_1) := by decide +kernel
theorem nar_tl : Jvm.Cond.eq (.length (.static "NestedBodies" "TENS" "[I")) (.int 5) ∈ flatC (Jvm.Cond.and given_1 narrow_1) := by decide +kernel
theorem nar_ha : Jvm.Cond.arrayOf (.static "NestedBodies" "HAVING" "[I") .int ∈ flatC (Jvm.Cond.and given_1 narrow_1) := by decide +kernel
theorem nar_ta : Jvm.Cond.arrayOf (.static "NestedBodies" "TENS" "[I") .int ∈ flatC (Jvm.Cond.and given_1 narrow_1) := by decide +kernel
theorem arr_known {args : Array Value} {s : State} {ty : FieldType} (h : (Cond.arrayClass ty).before args s = true) : ∃ cA : ClassId, s.vm.findClass ("[" ++ ty.toString) = some cA ∧ ArrOfT s cA ty := by
  obtain ⟨c, k, comp, h1, h2, h3⟩ := Cond.arrayClass_spec h
  exact ⟨c, h1, fun n z => ⟨fun k h => (by cases h), k, h2, comp, h3⟩⟩
set_option maxHeartbeats 4000000 in
theorem start_of (ck : ∀ mi, mi < 249 → ∀ (i : Nat) (e : EI), (mt mi).1[i]? = some e → ∃ hs, ckE mi e hs = true) (cy : ∀ mi, mi < 248 → ckY mi = true) (hlaw : LawRuns) {p : Program} {e : Env} {s : State} {m : MethodId} {below : List Frame} {meth : Method} {c : Code} (l : Launch) {b L : Nat} {xs : Nat → Int32} (hL : L ≤ 3072) (C0 : lw_At p s m meth c b L xs) : W p l e room_1 s m #[Value.ref b] below meth c s.heap [] 0 0 (lw_Z below #[Value.ref b] s) (entryFrame m ([Value.ref b] : List Value).toArray 4) := by
  obtain ⟨hx, hb, hr, hml, hown, hts0, hX, hbl, hlocks, hgv⟩ := C0
  have hts : ∀ w ∈ gtb, w.before #[Value.ref b] s = true := fun w hw => hts0 w (gtb_tbl hw)
  have hA : ∀ a : Nat, a < s.heap.size → ¬ AB s.heap.size a := fun a h => Nat.not_le.mpr h
  have hfl := flat_of_before _ hgv
  -- the static rows
  obtain ⟨hv, ehv, cellh, hh1, hh2, hh3, hh4, hh5, hh6, -⟩ := va_Tof (ty := .int) (N := 5) (f := fun j => .int (havF j)) (by decide) (hfl _ nar_ha) (va_eqt (hfl _ nar_hl)) (fun j hj => va_eqt (hfl _ (nar_h j hj))) hA
  obtain ⟨tn, etn, cellt, ht1, ht2, ht3, ht4, ht5, ht6, -⟩ := va_Tof (ty := .int) (N := 5) (f := fun j => .int (tenF j)) (by decide) (hfl _ nar_ta) (va_eqt (hfl _ nar_tl)) (fun j hj => va_eqt (hfl _ (nar_t j hj))) hA
  have hZ0 : va_Z "NestedBodies" "HAVING" "[I" (.ref hv) (AB s.heap.size) s s.heap := va_Zof (hts0 _ st_lays0) (hts _ (wAt_mem (cl_ini 0 (by decide)))) ehv hA
  have hZ1 : va_Z "NestedBodies" "TENS" "[I" (.ref tn) (AB s.heap.size) s s.heap := va_Zof (hts0 _ st_lays1) (hts _ (wAt_mem (cl_ini 0 (by decide)))) etn hA
  -- the classes
  have hkn : ∀ ci : Nat, ∃ (cC : ClassId) (iS : Nat → Nat), ci < 9 → u_Kn s (clN ci) (clF ci) (clS ci) cC iS := by
    intro ci
    by_cases h9 : ci < 9
    · obtain ⟨cC, iS, h⟩ := u_known hts (cl_ws h9) (hts _ (wAt_mem (cl_ins ci h9)))
      exact ⟨cC, iS, fun _ => h⟩
    · exact ⟨0, fun _ => 0, fun h => absurd h h9⟩
  obtain ⟨cI, fI, aI⟩ := arr_known (hts _ (wAt_mem aw_int))
  obtain ⟨cL, fL, aL⟩ := arr_known (hts _ (wAt_mem aw_long))
  obtain ⟨cBy, fB, aB⟩ := arr_known (hts _ (wAt_mem aw_byte))
  have hAO : va_AO "NestedBodies$Tape" s := va_AO.of (hts0 _ st_over)
  obtain ⟨comp, cT, kT, o1, o2, o3, o4, o5⟩ := Cond.arrayOver_spec hAO
  let D : va_G := (fun ci => Classical.choose (hkn ci), fun ci => Classical.choose (Classical.choose_spec (hkn ci)))
  let cA : FieldType → ClassId := fun ty => if ty = .int then cI else if ty = .long then cL else if ty = .byte then cBy else cT
  have hK : va_K D clT (tysL cA) s := by
    refine ⟨fun ci q hq => ?_, fun k q hq => ?_⟩
    · have h9 := cl_lt hq
      rw [cl_at h9] at hq
      cases hq
      exact Classical.choose_spec (Classical.choose_spec (hkn ci)) h9
    · match k, hq with
      | 0, hq => cases hq; exact ⟨aI, fI⟩
      | 1, hq => cases hq; exact ⟨aL, fL⟩
      | 2, hq => cases hq; exact ⟨aB, fB⟩
      | 3, hq =>
        cases hq
        exact ⟨fun n z => ⟨fun k h => (by cases h), kT, o3, comp, o4⟩, kT, comp, o3, o4, o1, o5⟩
      | k + 4, hq => simp [tysL] at hq
  have hkk : KK s.heap.size hv tn cA D s := ⟨hK, hAO, fun w hw => va_Nw.of (by
    revert w
    decide +kernel) (hts0 _ (nstW_in w hw)), hZ0, hZ1⟩
  obtain ⟨n, h', hrun, hc1, hc2⟩ := hlaw L xs hL
  obtain ⟨scr, x1, x2, x3, x4, x5⟩ := hX
  have hR : HRel s.heap.size hv tn b cA D s (h0A L xs) s.heap := by
    refine ⟨Nat.le_refl 3, by show _ = _ + (3 - 3); omega, fun r r3 rl => absurd rl (by show ¬ r < 3; omega), fun r hr => ?_, fun r hr => ?_, fun r t n z hz => ?_⟩
    · obtain ⟨k, rfl⟩ : ∃ k, r = k + 3 := ⟨r - 3, by have : 3 ≤ r := hr; omega⟩
      rfl
    · match r, hr with
      | 0, _ => exact ⟨5, havF, rfl, ⟨cellh, hh1, hh2, hh3, hh4, hh5, hh6⟩, (Array.getElem?_eq_some_iff.mp hh1).1⟩
      | 1, _ => exact ⟨5, tenF, rfl, ⟨cellt, ht1, ht2, ht3, ht4, ht5, ht6⟩, (Array.getElem?_eq_some_iff.mp ht1).1⟩
      | 2, _ => exact ⟨L, xs, rfl, ⟨scr, x1, x2, x3, by omega, by rw [x4]; rfl, x5⟩, hbl⟩
    · match r, hz with
      | 0, hz => cases hz; exact Or.inl rfl
      | 1, hz => cases hz; exact Or.inl rfl
      | 2, hz => cases hz; exact Or.inl rfl
      | k + 3, hz => cases hz
  have hg := run_grow _ _ _ _ _ _ _ _ _ hrun
  have hS := snd (l := l) (B := s.heap.size) (hv := hv) (tn := tn) (sb := b) (cA := cA) (D := D) ck cy n 60 248 0 _ _ _ _ _ hrun (by omega)
  have hW := hS p e room_1 s m #[Value.ref b] below meth c s.heap [] 0 0 _ _ 0 _ hx hb hr hml hown hts hkk (fun hn => absurd hn (by decide +kernel)) hlocks (by decide) (by decide) (by show h'.1.1 - 3 ≤ 600000; omega) (by show h'.1.2 - 0 ≤ 7302250; omega) rfl (lvR_entry _ [.ref 2] 4 (by decide)) hR va_S.rf (Nat.zero_add _) (Nat.zero_add _)
  rw [lg_entry_eq]
  intro T hT X
  obtain ⟨t, a1, o, b1, b2, ⟨hq1, -, -⟩, Lx, ⟨f1, f2, f3⟩, hfree⟩ := hW T hT X
  refine ⟨t, a1, o, b1, b2, hq1, ⟨f1, f2, ?_⟩⟩
  exact f3.weaken (fun y hy hlt => absurd (hfree y hy) (Nat.not_le.mpr hlt)) (by show h'.1.1 - 3 ≤ 600000; omega) (by show h'.1.2 - 0 ≤ 7302250; omega)
