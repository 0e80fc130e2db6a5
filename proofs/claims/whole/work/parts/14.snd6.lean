/-! 6: Object's constructor, Math, arraycopy, the ends, the calls -/
theorem ow_i : wAt 97 (.instanceMethod objectInit) = true := by decide +kernel
theorem ow_c : wAt 98 (.code objectInit ⟨#[0xb1]⟩ 1 none) = true := by decide +kernel
theorem mw_s1 : wAt 158 (.static Lib.Math.max.name) = true := by decide +kernel
theorem mw_c1 : wAt 159 (.code Lib.Math.max.name Lib.Math.max.code 2 (some .int)) = true := by decide +kernel
theorem mw_s2 : wAt 743 (.static Lib.Math.min.name) = true := by decide +kernel
theorem mw_c2 : wAt 744 (.code Lib.Math.min.name Lib.Math.min.code 2 (some .int)) = true := by decide +kernel
theorem mw_i : wAt 83 (.initialized "java/lang/Math") = true := by decide +kernel
theorem yw_n : wAt 896 (.native arraycopyName) = true := by decide +kernel
theorem yw_s : wAt 895 (.static arraycopyName) = true := by decide +kernel
theorem yw_i : wAt 90 (.initialized "java/lang/System") = true := by decide +kernel
theorem unS_vz (ρ : Nat → Nat) (st : List Value) : ((st.map (vz ρ)).map fun v => v.category).sum = unS st := by
  unfold unS
  rw [List.map_map]
  congr 1
  apply List.map_congr_left
  intro v _
  exact vz_cat ρ v
section
variable {p : Program} {l : Launch} {e : Env} {R : Room} {s : State} {m : MethodId} {args : Array Value} {below : List Frame} {meth : Method} {c : Code} {H : Heap} {locs : List Loc} {cells slots : Nat} {Q : State → Prop} {B hv tn sb : Nat} {cA : FieldType → ClassId} {D : va_G} {ρ : Nat → Nat}
set_option maxHeartbeats 4000000 in
theorem snO {mi bp j a b : Nat} {ins : Instr} {x : Int32} {y : Int64} {ts hs : List Nat} {st st' : List Value} {L : Array Slot} (hx : p.tables.exec = Jvm.exec) (hb : c.code = byM mi) (hown : s.vm.findClass (yM mi).cls = some m.cls) (hts : ∀ w ∈ gtb, w.before args s = true) (hsz : L.size = c.maxLocals) (hfr : 1 ≤ R.frames) (hlo : 100 ≤ R.locals) (hce : cells ≤ R.cells) (hsl : slots ≤ R.slots) (ck : ckE mi (bp, ins, x, y, j, a, b, ts) hs = true) (hst : stepO ins b st = some st')
    (kk : ∀ (bq : Nat), bpc mi j = some bq → W p l e R s m args below meth c H locs cells slots Q (F0 m bq L (st'.map (vz ρ)))) : W p l e R s m args below meth c H locs cells slots Q (F0 m bp L (st.map (vz ρ))) := by
  obtain ⟨n, hd, hI⟩ := ckE_dec ck
  unfold stepO at hst
  unfold ckI at hI
  split at hst
  case h_1 ix =>
    dsimp only at hI
    simp only [Bool.and_eq_true, decide_eq_true_eq] at hI
    obtain ⟨⟨rfl, hf⟩, hw⟩ := hI
    split at hst
    · rename_i v2 v1 st0
      split at hst
      · rename_i hu
        have hu8 : ((st0.map (vz ρ)).map fun v => v.category).sum + 13 ≤ R.locals := by rw [unS_vz]; omega
        split at hst
        · rename_i hb2
          subst hb2
          cases hst
          rw [if_neg (by omega), if_pos rfl] at hw
          exact va_mmax hx hb hsz.symm hown (hts _ (wAt_mem hw)) (hts _ (wAt_mem mw_s1)) (hts _ (wAt_mem mw_i)) (hts _ (wAt_mem mw_c1)) hfr hu8 hce hsl hd (kk _ (fall_of hf))
        · split at hst
          · rename_i hb2
            subst hb2
            cases hst
            rw [if_neg (by omega), if_neg (by omega), if_pos rfl] at hw
            exact va_mmin hx hb hsz.symm hown (hts _ (wAt_mem hw)) (hts _ (wAt_mem mw_s2)) (hts _ (wAt_mem mw_i)) (hts _ (wAt_mem mw_c2)) hfr hu8 hce hsl hd (kk _ (fall_of hf))
          · cases hst
      · cases hst
    · cases hst
  case h_2 ix =>
    dsimp only at hI
    simp only [Bool.and_eq_true, decide_eq_true_eq] at hI
    obtain ⟨⟨rfl, hf⟩, hw⟩ := hI
    split at hst
    · rename_i hb1
      subst hb1
      rw [if_pos rfl] at hw
      split at hst
      · rename_i r st0
        split at hst
        · rename_i hu
          cases hst
          refine W.objInit hx hb hown (hts _ (wAt_mem hw)) (hts _ (wAt_mem ow_i)) (hts _ (wAt_mem ow_c)) rfl hsz (a := ρ r) (rest := st'.map (vz ρ)) rfl hd hfr ?_ (kk _ (fall_of hf))
          rw [unS_vz]
          show 2 * 0 + unS st' + 12 ≤ R.locals
          omega
        · cases hst
      · cases hst
    · cases hst
  case h_3 => cases hst
/-- arraycopy of longs, with the heap's size -/
theorem sn_copy {mi bp ix : Nat} {h : AH} {r0 r1 n0 n1 : Nat} {f g : Nat → Int64} {sp dp n : Int32} {rest : List Value} {L : Array Slot} (hx : p.tables.exec = Jvm.exec) (hb : c.code = byM mi) (hml : c.maxLocals = L.size) (hown : s.vm.findClass (yM mi).cls = some m.cls) (hts : ∀ w ∈ gtb, w.before args s = true) (hlink : (Cond.methodLink (yM mi).cls ix arraycopyName).before args s = true) (hK : va_K D clT (tysL cA) s) (hR : HRel B hv tn sb cA D s h H) (hS : va_S (AB B) s.heap H locs) (hc0 : h.2 r0 = .inl (.long, n0, .inr (.inl f))) (hc1 : h.2 r1 = .inl (.long, n1, .inr (.inl g))) (h30 : 3 ≤ r0) (h31 : 3 ≤ r1) (h1 : ¬ sp < 0) (h2 : ¬ dp < 0) (h3 : ¬ n < 0) (h4 : sp.toNatClampNeg + n.toNatClampNeg ≤ n0) (h5 : dp.toNatClampNeg + n.toNatClampNeg ≤ n1)
    (hframes : 1 ≤ R.frames) (hlocals : (rest.map fun v => v.category).sum + (nativeFrameWords "java/lang/System" "arraycopy" 5 + 11) ≤ R.locals) (hd : decode (byM mi) bp = .ok (.invokestatic ix, 3))
    (kk : ∀ (H1 : Heap) (locs1 : List Loc), HRel B hv tn sb cA D s (upH h r1 (.inl (.long, n1, .inr (.inl (va_cpy f g sp.toNatClampNeg dp.toNatClampNeg n.toNatClampNeg))))) H1 → va_S (AB B) s.heap H1 locs1 → W p l e R s m args below meth c H1 locs1 cells slots Q (F0 m (bp + 3) L rest)) : W p l e R s m args below meth c H locs cells slots Q (F0 m bp L (.int n :: .int dp :: .ref (rho B hv tn sb r1) :: .int sp :: .ref (rho B hv tn sb r0) :: rest)) := by
  obtain ⟨-, hat0⟩ := hR.arr hc0 h30
  obtain ⟨hr1, hat1⟩ := hR.arr hc1 h31
  have nn : ∀ z : Int32, ¬ z < 0 → z.toInt = (z.toNatClampNeg : Int) := by
    intro z hz
    have hz0 : (0 : Int) ≤ z.toInt := by
      have := Int32.not_lt.mp hz
      simpa using Int32.le_iff_toInt_le.mp this
    show z.toInt = ((z.toInt.toNat : Nat) : Int)
    omega
  intro T hT X
  have hc0 : H[rho B hv tn sb r0]? = some (vp_cell (cA .long) (n0, .inr (.inl f))) := hat0
  have hc1 : H[rho B hv tn sb r1]? = some (vp_cell (cA .long) (n1, .inr (.inl g))) := hat1
  obtain ⟨-, k0, hk0, cm0, hkk0⟩ := (hK.2 1 _ rfl).1 n0 (fun j => .long (f j))
  obtain ⟨-, k1, hk1, cm1, hkk1⟩ := (hK.2 1 _ rfl).1 n1 (fun j => .long (g j))
  obtain ⟨vm', X', step⟩ := X.arraycopy hx hown hlink (hts _ (wAt_mem yw_n)) (hts _ (wAt_mem yw_s)) (hts _ (wAt_mem yw_i)) (src := rho B hv tn sb r0) (dst := rho B hv tn sb r1) (cs := vp_cell (cA .long) (n0, .inr (.inl f))) (cd := vp_cell (cA .long) (n1, .inr (.inl g))) (srcPos := sp) (destPos := dp) (n := n) (by rw [hT]; exact hc0) (by rw [hT]; exact hc1)
    (fun _ h => by cases h) (fun _ h => by cases h) (fun h => by cases h) (fun h => by cases h) hk0 hk1 hkk0 hkk1 (by simp [refKind]) h1 h2 h3
    (by rw [nn sp h1, nn n h3]; show ¬ _ > ((arrV (cA .long) n0 (fun j => .long (f j))).slots.size : Int); rw [arrV_size]; omega)
    (by rw [nn dp h2, nn n h3]; show ¬ _ > ((arrV (cA .long) n1 (fun j => .long (g j))).slots.size : Int); rw [arrV_size]; omega)
    (fun vm₁ _ i hi => by
      have e : (vp_cell (cA .long) (n0, .inr (.inl f))).slots.getD (sp.toNatClampNeg + i) .null = .long (f (sp.toNatClampNeg + i)) := by
        show (arrV (cA .long) n0 (fun j => .long (f j))).slots.getD _ _ = _
        rw [Array.getD_eq_getD_getElem?, arrV_read _ _ (by omega)]
        rfl
      refine ⟨?_, ?_⟩
      · rw [e]
        rfl
      · rw [e]
        exact trivial)
    (g := F0 m bp L (.int n :: .int dp :: .ref (rho B hv tn sb r1) :: .int sp :: .ref (rho B hv tn sb r0) :: rest)) rfl (by rw [hml]) (rest := rest) rfl (by rw [hb]; exact hd) hframes (by show 2 * 0 + _ + _ ≤ _; omega)
  have e1 : copied (vp_cell (cA .long) (n0, .inr (.inl f))) (vp_cell (cA .long) (n1, .inr (.inl g))) sp dp n = vp_cell (cA .long) (n1, .inr (.inl (va_cpy f g sp.toNatClampNeg dp.toNatClampNeg n.toNatClampNeg))) := va_copied (fun z => .long z) (cA .long) (cA .long) f g h4
  rw [e1] at X' step
  have hl : rho B hv tn sb r1 < H.size := (Array.getElem?_eq_some_iff.mp hc1).1
  have hheap : ((T.setVm vm').setCell (rho B hv tn sb r1) (vp_cell (cA .long) (n1, .inr (.inl (va_cpy f g sp.toNatClampNeg dp.toNatClampNeg n.toNatClampNeg))))).heap = H.setIfInBounds (rho B hv tn sb r1) (vp_cell (cA .long) (n1, .inr (.inl (va_cpy f g sp.toNatClampNeg dp.toNatClampNeg n.toNatClampNeg)))) := by rw [← hT]; rfl
  have oq : ∀ q : Nat, q ≠ rho B hv tn sb r1 → (H.setIfInBounds (rho B hv tn sb r1) (vp_cell (cA .long) (n1, .inr (.inl (va_cpy f g sp.toNatClampNeg dp.toNatClampNeg n.toNatClampNeg)))))[q]? = H[q]? := fun q hq => by simp [Array.getElem?_setIfInBounds, Ne.symm hq]
  have hA : AB B (rho B hv tn sb r1) := by show B ≤ _; rw [rho3 h31]; omega
  obtain ⟨t, a1, b1⟩ := kk _ _ (hR.up h31 hr1 (show (H.setIfInBounds (rho B hv tn sb r1) _)[rho B hv tn sb r1]? = some _ by simp [Array.getElem?_setIfInBounds, hl]) (by simp) oq (fun t n w hw => by cases hw; exact Or.inr (Or.inl rfl))) ⟨by simp; exact hS.1, fun q g1 g2 => by
      rw [oq q (fun e => g2 (by rw [e]; exact hA))]
      exact hS.2.1 q g1 g2, fun q hq => by
      rcases List.mem_append.mp hq with h | h
      · exact hS.2.2 q h
      · obtain ⟨z, -, hz⟩ := List.mem_map.mp h
        rw [← hz]
        exact hA⟩ _ hheap X'
  exact ⟨t, step t a1, b1⟩
set_option maxHeartbeats 4000000 in
theorem snY {mi bp j a b : Nat} {ins : Instr} {x : Int32} {y : Int64} {ts hs : List Nat} {st st' : List Value} {h h' : AH} {L : Array Slot} (hx : p.tables.exec = Jvm.exec) (hb : c.code = byM mi) (hml : c.maxLocals = L.size) (hown : s.vm.findClass (yM mi).cls = some m.cls) (hts : ∀ w ∈ gtb, w.before args s = true) (hK : va_K D clT (tysL cA) s) (hR : HRel B hv tn sb cA D s h H) (hS0 : va_S (AB B) s.heap H locs) (hfr : 1 ≤ R.frames) (hlo : 100 ≤ R.locals) (ck : ckE mi (bp, ins, x, y, j, a, b, ts) hs = true) (hst : stepY ins b st h = some (st', h'))
    (kk : ∀ (H1 : Heap) (locs1 : List Loc) (bq : Nat), HRel B hv tn sb cA D s h' H1 → va_S (AB B) s.heap H1 locs1 → bpc mi j = some bq → h'.1 = h.1 → W p l e R s m args below meth c H1 locs1 cells slots Q (F0 m bq L (st'.map (vz (rho B hv tn sb))))) : W p l e R s m args below meth c H locs cells slots Q (F0 m bp L (st.map (vz (rho B hv tn sb)))) := by
  obtain ⟨n, hd, hI⟩ := ckE_dec ck
  unfold stepY at hst
  unfold ckI at hI
  split at hst
  case h_1 ix =>
    dsimp only at hI
    simp only [Bool.and_eq_true, decide_eq_true_eq] at hI
    obtain ⟨⟨rfl, hf⟩, hw⟩ := hI
    split at hst
    · rename_i hb1
      subst hb1
      rw [if_pos rfl] at hw
      split at hst
      · split at hst
        · rename_i hc0
          split at hst
          · rename_i hc1
            split at hst
            · rename_i hq
              obtain ⟨q1, q2, q3, q4, q5, q6, q7, q8⟩ := hq
              cases hst
              refine sn_copy hx hb hml hown hts (hts _ (wAt_mem hw)) hK hR hS0 hc0 hc1 q6 q7 q1 q2 q3 q4 q5 hfr ?_ hd (fun H1 l1 hR1 hS1 => kk H1 l1 _ hR1 hS1 (fall_of hf) rfl)
              rw [unS_vz]
              have e7 : nativeFrameWords "java/lang/System" "arraycopy" 5 = 7 := by decide +kernel
              rw [e7]
              unfold unS
              omega
            · cases hst
          · cases hst
        · cases hst
      · cases hst
    · cases hst
  case h_2 => cases hst
end
