/-! 5: the steps that reach cells, together; Object's constructor, Math, arraycopy; the ends -/
section
variable {p : Program} {l : Launch} {e : Env} {R : Room} {s : State} {m : MethodId} {args : Array Value} {below : List Frame} {meth : Method} {c : Code} {H : Heap} {locs : List Loc} {cells slots : Nat} {Q : State → Prop} {B hv tn sb : Nat} {cA : FieldType → ClassId} {D : va_G}
/-- what the tables and the static fields say at a state -/
def KK (B hv tn : Nat) (cA : FieldType → ClassId) (D : va_G) (U : State) : Prop :=
  va_K D clT (tysL cA) U ∧ va_AO "NestedBodies$Tape" U ∧ (∀ w ∈ nstW, va_Nw w U) ∧ va_Z "NestedBodies" "HAVING" "[I" (.ref hv) (AB B) U U.heap ∧ va_Z "NestedBodies" "TENS" "[I" (.ref tn) (AB B) U U.heap
theorem tp_of {C : String} (h : FieldType.object C = .int ∨ FieldType.object C = .long ∨ FieldType.object C = .byte ∨ FieldType.object C = tpT) : FieldType.object C = tpT := by
  rcases h with h | h | h | h
  · cases h
  · cases h
  · cases h
  · exact h
set_option maxHeartbeats 4000000 in
theorem snH {mi bp j a b : Nat} {ins : Instr} {x : Int32} {y : Int64} {ts hs : List Nat} {st st' : List Value} {h h' : AH} {L : Array Slot} (hx : p.tables.exec = Jvm.exec) (hb : c.code = byM mi) (hown : s.vm.findClass (yM mi).cls = some m.cls) (hts : ∀ w ∈ gtb, w.before args s = true) (hkk : KK B hv tn cA D s) (hin : (yM mi).name = "<init>" → meth.name = "<init>") (hR : HRel B hv tn sb cA D s h H) (hS0 : va_S (AB B) s.heap H locs) (ck : ckE mi (bp, ins, x, y, j, a, b, ts) hs = true) (hst : stepH fty dvl ins a b st h = some (st', h')) (hrc : cells + (h'.1.1 - h.1.1) ≤ R.cells) (hrs : slots + (h'.1.2 - h.1.2) ≤ R.slots)
    (kk : ∀ (H1 : Heap) (locs1 : List Loc) (bq : Nat), HRel B hv tn sb cA D s h' H1 → va_S (AB B) s.heap H1 locs1 → bpc mi j = some bq → W p l e R s m args below meth c H1 locs1 (cells + (h'.1.1 - h.1.1)) (slots + (h'.1.2 - h.1.2)) Q (F0 m bq L (st'.map (vz (rho B hv tn sb))))) : W p l e R s m args below meth c H locs cells slots Q (F0 m bp L (st.map (vz (rho B hv tn sb)))) := by
  obtain ⟨n, hd, hI⟩ := ckE_dec ck
  obtain ⟨hK, hAO, hNs, hZ0, hZ1⟩ := hkk
  have same : ∀ {h2 : AH}, h2.1 = h.1 → ∀ {H1 : Heap} {l1 : List Loc} {g : JFrame}, W p l e R s m args below meth c H1 l1 (cells + (h2.1.1 - h.1.1)) (slots + (h2.1.2 - h.1.2)) Q g → W p l e R s m args below meth c H1 l1 cells slots Q g := by
    intro h2 he H1 l1 g w
    rw [he, Nat.sub_self, Nat.sub_self] at w
    exact w
  unfold stepH at hst
  unfold ckI at hI
  split at hst
  case h_1 ix => -- getfield
    dsimp only at hI
    simp only [Bool.and_eq_true, decide_eq_true_eq] at hI
    obtain ⟨⟨⟨⟨⟨rfl, hf⟩, ha⟩, h9⟩, hw⟩, hdc⟩ := hI
    split at hst
    · split at hst
      · rename_i hc
        split at hst
        · rename_i he
          subst he
          split at hst
          · rename_i hv2
            cases hst
            exact sn_get hx hb hown hts hK hR hc h9 ha hv2 (hts _ (wAt_mem hw)) hdc hd (same rfl (kk H locs _ hR hS0 (fall_of hf)))
          · cases hst
        · cases hst
      · cases hst
    · cases hst
  case h_2 ix => -- putfield
    dsimp only at hI
    simp only [Bool.and_eq_true, decide_eq_true_eq, Bool.or_eq_true, Bool.not_eq_true'] at hI
    obtain ⟨⟨⟨⟨⟨⟨rfl, hf⟩, ha⟩, h9⟩, hw⟩, hdc⟩, hfin⟩ := hI
    split at hst
    · split at hst
      · rename_i hc
        split at hst
        · rename_i he
          obtain ⟨rfl, h3, hl, hvo⟩ := he
          cases hst
          exact sn_put hx hb hown hts hK hR hS0 hc h9 ha hl hvo (hts _ (wAt_mem hw)) hdc (hfin.imp id (fun q => ⟨q.1, hin q.2⟩)) hd (fun H1 l1 hR1 hS1 => same rfl (kk H1 l1 _ hR1 hS1 (fall_of hf)))
        · cases hst
      · cases hst
    · cases hst
  case h_3 ix => -- getstatic
    dsimp only at hI
    simp only [Bool.and_eq_true, decide_eq_true_eq] at hI
    obtain ⟨⟨⟨rfl, hf⟩, ha⟩, hw⟩ := hI
    cases hst
    have kk' := same rfl (kk H locs _ hR hS0 (fall_of hf))
    have hZ : va_Z "NestedBodies" (stN a) "[I" (.ref (rho B hv tn sb a)) (AB B) s s.heap := by
      rcases (show a = 0 ∨ a = 1 by omega) with rfl | rfl
      · exact hZ0
      · exact hZ1
    by_cases h0 : hd0 hs 0 = 0
    · rw [if_pos h0] at hw
      exact va_gets hx hb hZ hS0 hown (hts _ (wAt_mem hw)) (fun x hx => hx) hd kk'
    · rw [if_neg h0, decide_eq_true_eq] at hw
      exact va_getsN hx hb hZ hS0 hown (va_Nw.use rfl (hNs _ hw)) (fun x hx => hx) hd kk'
  case h_4 => -- iaload
    dsimp only at hI
    simp only [Bool.and_eq_true, decide_eq_true_eq] at hI
    obtain ⟨rfl, hf⟩ := hI
    split at hst
    · split at hst
      · rename_i hc
        split at hst
        · rename_i hi
          cases hst
          exact sn_iald hx hb hK hR hc hi hd (same rfl (kk H locs _ hR hS0 (fall_of hf)))
        · cases hst
      · cases hst
    · cases hst
  case h_5 => -- baload
    dsimp only at hI
    simp only [Bool.and_eq_true, decide_eq_true_eq] at hI
    obtain ⟨rfl, hf⟩ := hI
    split at hst
    · split at hst
      · rename_i hc
        split at hst
        · rename_i hi
          cases hst
          exact va_bald (D := D) (cl := clT) (tys := tysL cA) hx hb hK (sn_aP hR hc hi.2) 0 2 rfl rfl (inB_in hi.1) hd (same rfl (kk H locs _ hR hS0 (fall_of hf)))
        · cases hst
      · cases hst
    · cases hst
  case h_6 => -- laload
    dsimp only at hI
    simp only [Bool.and_eq_true, decide_eq_true_eq] at hI
    obtain ⟨rfl, hf⟩ := hI
    split at hst
    · split at hst
      · rename_i hc
        split at hst
        · rename_i hi
          cases hst
          exact va_lald (D := D) (cl := clT) (tys := tysL cA) hx hb hK (sn_aP hR hc hi.2) 0 1 rfl rfl (inB_in hi.1) hd (same rfl (kk H locs _ hR hS0 (fall_of hf)))
        · cases hst
      · cases hst
    · cases hst
  case h_7 => -- aaload
    dsimp only at hI
    simp only [Bool.and_eq_true, decide_eq_true_eq] at hI
    obtain ⟨rfl, hf⟩ := hI
    split at hst
    · split at hst
      · rename_i C n f hc
        split at hst
        · rename_i hi
          cases hst
          have htp := tp_of (hR.2.2.2.2.2 _ _ _ _ hc)
          rw [htp] at hc
          have kk' := same rfl (kk H locs _ hR hS0 (fall_of hf))
          refine va_aldq (D := D) (cl := clT) (tys := tysL cA) hx hb hK (sn_aP hR hc hi.2) 0 3 rfl rfl (inB_in hi.1) hd ?_
          revert kk'
          cases f _ <;> exact id
        · cases hst
      · cases hst
    · cases hst
  case h_8 => -- iastore
    dsimp only at hI
    simp only [Bool.and_eq_true, decide_eq_true_eq] at hI
    obtain ⟨rfl, hf⟩ := hI
    split at hst
    · split at hst
      · rename_i hc
        split at hst
        · rename_i hi
          cases hst
          exact sn_iast hx hb hK hR hS0 hc hi.1 hi.2 hd (fun H1 l1 hR1 hS1 => same rfl (kk H1 l1 _ hR1 hS1 (fall_of hf)))
        · cases hst
      · cases hst
    · cases hst
  case h_9 => -- bastore
    dsimp only at hI
    simp only [Bool.and_eq_true, decide_eq_true_eq] at hI
    obtain ⟨rfl, hf⟩ := hI
    split at hst
    · split at hst
      · rename_i hc
        split at hst
        · rename_i hi
          cases hst
          exact sn_bast hx hb hK hR hS0 hc hi.1 hi.2 hd (fun H1 l1 hR1 hS1 => same rfl (kk H1 l1 _ hR1 hS1 (fall_of hf)))
        · cases hst
      · cases hst
    · cases hst
  case h_10 => -- lastore
    dsimp only at hI
    simp only [Bool.and_eq_true, decide_eq_true_eq] at hI
    obtain ⟨rfl, hf⟩ := hI
    split at hst
    · split at hst
      · rename_i hc
        split at hst
        · rename_i hi
          cases hst
          exact sn_last hx hb hK hR hS0 hc hi.1 hi.2 hd (fun H1 l1 hR1 hS1 => same rfl (kk H1 l1 _ hR1 hS1 (fall_of hf)))
        · cases hst
      · cases hst
    · cases hst
  case h_11 => -- aastore
    dsimp only at hI
    simp only [Bool.and_eq_true, decide_eq_true_eq] at hI
    obtain ⟨⟨rfl, hf⟩, rfl⟩ := hI
    split at hst
    · split at hst
      · rename_i C n f hc
        split at hst
        · rename_i hcv
          split at hst
          · rename_i hi
            obtain ⟨hi1, hi2, hi3, rfl⟩ := hi
            cases hst
            have htp := tp_of (hR.2.2.2.2.2 _ _ _ _ hc)
            rw [htp] at hc kk
            exact sn_aast hx hb hK hR hS0 hc hcv hi1 hi2 hd (fun H1 l1 hR1 hS1 => same rfl (kk H1 l1 _ hR1 hS1 (fall_of hf)))
          · cases hst
        · cases hst
      · cases hst
    · cases hst
  case h_12 => -- arraylength
    dsimp only at hI
    simp only [Bool.and_eq_true, decide_eq_true_eq] at hI
    obtain ⟨rfl, hf⟩ := hI
    split at hst
    · split at hst
      · rename_i hc
        split at hst
        · cases hst
          exact sn_alen hx hb hK hR hc hd (same rfl (kk H locs _ hR hS0 (fall_of hf)))
        · cases hst
      · cases hst
    · cases hst
  case h_13 ix => -- new
    dsimp only at hI
    simp only [Bool.and_eq_true, decide_eq_true_eq] at hI
    obtain ⟨⟨⟨rfl, hf⟩, h9⟩, hw⟩ := hI
    cases hst
    have e1 : (alH h (.inr (a, dvl a))).1.1 - h.1.1 = 1 := by show h.1.1 + 1 - h.1.1 = 1; omega
    have e2 : (alH h (.inr (a, dvl a))).1.2 - h.1.2 = (dvl a).length := by show h.1.2 + (dvl a).length - h.1.2 = _; omega
    rw [e1] at hrc kk
    rw [e2] at hrs kk
    exact sn_new hx hb hown hts hK hR hS0 h9 (hts _ (wAt_mem hw)) hd hrc hrs (fun H1 hR1 hS1 => kk H1 locs _ hR1 hS1 (fall_of hf))
  case h_14 => -- newarray int
    dsimp only at hI
    simp only [Bool.and_eq_true, decide_eq_true_eq] at hI
    obtain ⟨rfl, hf⟩ := hI
    split at hst
    · split at hst
      · rename_i n st0 hi
        cases hst
        have e1 : (alH h (.inl (.int, n.toNatClampNeg, .inl (fun _ => 0)))).1.1 - h.1.1 = 1 := by show h.1.1 + 1 - h.1.1 = 1; omega
        have e2 : (alH h (.inl (.int, n.toNatClampNeg, .inl (fun _ => 0)))).1.2 - h.1.2 = n.toNatClampNeg := by show h.1.2 + n.toNatClampNeg - h.1.2 = _; omega
        rw [e1] at hrc kk
        rw [e2] at hrs kk
        exact sn_newa (at_ := .int) (t0 := 0) hx hb hK hR hS0 rfl (hts _ (wAt_mem aw_int)) rfl (hK.2 0 _ rfl).2 (fun k => rfl) rfl rfl hi (by decide) (Or.inl rfl) hd hrc hrs (fun H1 hR1 hS1 => kk H1 locs _ hR1 hS1 (fall_of hf))
      · cases hst
    · cases hst
  case h_15 => -- newarray byte
    dsimp only at hI
    simp only [Bool.and_eq_true, decide_eq_true_eq] at hI
    obtain ⟨rfl, hf⟩ := hI
    split at hst
    · split at hst
      · rename_i n st0 hi
        cases hst
        have e1 : (alH h (.inl (.byte, n.toNatClampNeg, .inl (fun _ => 0)))).1.1 - h.1.1 = 1 := by show h.1.1 + 1 - h.1.1 = 1; omega
        have e2 : (alH h (.inl (.byte, n.toNatClampNeg, .inl (fun _ => 0)))).1.2 - h.1.2 = n.toNatClampNeg := by show h.1.2 + n.toNatClampNeg - h.1.2 = _; omega
        rw [e1] at hrc kk
        rw [e2] at hrs kk
        exact sn_newa (at_ := .byte) (t0 := 2) hx hb hK hR hS0 rfl (hts _ (wAt_mem aw_byte)) rfl (hK.2 2 _ rfl).2 (fun k => rfl) rfl rfl hi (by decide) (Or.inr (Or.inr (Or.inl rfl))) hd hrc hrs (fun H1 hR1 hS1 => kk H1 locs _ hR1 hS1 (fall_of hf))
      · cases hst
    · cases hst
  case h_16 => -- newarray long
    dsimp only at hI
    simp only [Bool.and_eq_true, decide_eq_true_eq] at hI
    obtain ⟨rfl, hf⟩ := hI
    split at hst
    · split at hst
      · rename_i n st0 hi
        cases hst
        have e1 : (alH h (.inl (.long, n.toNatClampNeg, .inr (.inl (fun _ => 0))))).1.1 - h.1.1 = 1 := by show h.1.1 + 1 - h.1.1 = 1; omega
        have e2 : (alH h (.inl (.long, n.toNatClampNeg, .inr (.inl (fun _ => 0))))).1.2 - h.1.2 = n.toNatClampNeg := by show h.1.2 + n.toNatClampNeg - h.1.2 = _; omega
        rw [e1] at hrc kk
        rw [e2] at hrs kk
        exact sn_newa (at_ := .long) (t0 := 1) hx hb hK hR hS0 rfl (hts _ (wAt_mem aw_long)) rfl (hK.2 1 _ rfl).2 (fun k => rfl) rfl rfl hi (by decide) (Or.inr (Or.inl rfl)) hd hrc hrs (fun H1 hR1 hS1 => kk H1 locs _ hR1 hS1 (fall_of hf))
      · cases hst
    · cases hst
  case h_17 ix => -- anewarray
    dsimp only at hI
    simp only [Bool.and_eq_true, decide_eq_true_eq] at hI
    obtain ⟨⟨rfl, hf⟩, hw⟩ := hI
    split at hst
    · split at hst
      · rename_i n st0 hi
        cases hst
        have e1 : (alH h (.inl (tpT, n.toNatClampNeg, .inr (.inr (.inr (.inr (fun _ => none))))))).1.1 - h.1.1 = 1 := by show h.1.1 + 1 - h.1.1 = 1; omega
        have e2 : (alH h (.inl (tpT, n.toNatClampNeg, .inr (.inr (.inr (.inr (fun _ => none))))))).1.2 - h.1.2 = n.toNatClampNeg := by show h.1.2 + n.toNatClampNeg - h.1.2 = _; omega
        change cells + ((alH h (.inl (tpT, n.toNatClampNeg, .inr (.inr (.inr (.inr (fun _ => none))))))).1.1 - h.1.1) ≤ R.cells at hrc
        rw [e1] at hrc
        change slots + ((alH h (.inl (tpT, n.toNatClampNeg, .inr (.inr (.inr (.inr (fun _ => none))))))).1.2 - h.1.2) ≤ R.slots at hrs
        rw [e2] at hrs
        refine sn_anew hx hb hown hK hAO hR hS0 (hts _ (wAt_mem hw)) hi hd hrc hrs (fun H1 hR1 hS1 => ?_)
        have k2 := kk H1 locs _ hR1 hS1 (fall_of hf)
        change W p l e R s m args below meth c H1 locs (cells + ((alH h (.inl (tpT, n.toNatClampNeg, .inr (.inr (.inr (.inr (fun _ => none))))))).1.1 - h.1.1)) (slots + ((alH h (.inl (tpT, n.toNatClampNeg, .inr (.inr (.inr (.inr (fun _ => none))))))).1.2 - h.1.2)) Q _ at k2
        rw [e1, e2] at k2
        exact k2
      · cases hst
    · cases hst
  case h_18 => cases hst
end
