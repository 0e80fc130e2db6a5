/-! 10: calls, and the theorem -/
section
variable {p : Program} {l : Launch} {e : Env} {R : Room} {s : State} {m : MethodId} {args : Array Value} {below : List Frame} {meth : Method} {c : Code} {H : Heap} {locs : List Loc} {cells slots : Nat} {Q : State → Prop} {B hv tn sb : Nat} {cA : FieldType → ClassId} {D : va_G}
theorem take_back (ρ : Nat → Nat) {b : Nat} {st av st' : List Value} (h1 : (st.take b).reverse = av) (h2 : st.drop b = st') : st.map (vz ρ) = (av.map (vz ρ)).reverse ++ st'.map (vz ρ) := by
  subst h1; subst h2
  rw [← List.map_reverse, List.reverse_reverse, ← List.map_append, List.take_append_drop]
theorem PreM.at {av : List Value} {h : AH} (hR : HRel B hv tn sb cA D s h H) (hS0 : va_S (AB B) s.heap H locs) (hkk : KK B hv tn cA D s) : ∀ U : State, U.heap = H → s.WarmedH U.vm → PreM B hv tn sb cA D av h (av.map (vz (rho B hv tn sb))).toArray U := by
  intro U hU hW
  exact ⟨rfl, by rw [hU]; exact hR.moved hW.alike, hkk.warm hW (fun q h1 h2 => by rw [hU]; exact hS0.2.1 q h1 h2)⟩
set_option maxHeartbeats 4000000 in
theorem snC {d mi bp j a b k : Nat} {ins : Instr} {x : Int32} {y : Int64} {ts hs : List Nat} {st st' av : List Value} {h h1 : AH} {r1 : Option Value} {L : Array Slot} (hx : p.tables.exec = Jvm.exec) (hb : c.code = byM mi) (hml : c.maxLocals = (mt mi).2.1) (hLs : L.size = (mt mi).2.1) (hown : s.vm.findClass (yM mi).cls = some m.cls) (hts : ∀ w ∈ gtb, w.before args s = true) (hkk : KK B hv tn cA D s) (hR : HRel B hv tn sb cA D s h H) (hS0 : va_S (AB B) s.heap H locs) (hfr : d + 1 + 1 ≤ R.frames) (hlo : 100 * (d + 1 + 1) ≤ R.locals) (ck : ckE mi (bp, ins, x, y, j, a, b, ts) hs = true) (hst : stepC ins a b ts st h = some (k, av, st')) (cy : ∀ q, q < 248 → ckY q = true)
    (hM : k < 248 → Met l (yM k) (wsM k) (rmM d (h1.1.1 - h.1.1) (h1.1.2 - h.1.2)) (PreM B hv tn sb cA D av h) (PostM B hv tn sb cA D r1 h1) (h1.1.1 - h.1.1) (h1.1.2 - h.1.2) (AB B)) (hrc : cells + (h1.1.1 - h.1.1) ≤ R.cells) (hrs : slots + (h1.1.2 - h.1.2) ≤ R.slots)
    (kk : ∀ (H1 : Heap) (locs1 : List Loc) (bq : Nat), HRel B hv tn sb cA D s h1 H1 → va_S (AB B) s.heap H1 locs1 → bpc mi j = some bq → W p l e R s m args below meth c H1 locs1 (cells + (h1.1.1 - h.1.1)) (slots + (h1.1.2 - h.1.2)) Q (F0 m bq L ((r1.toList ++ st').map (vz (rho B hv tn sb))))) : W p l e R s m args below meth c H locs cells slots Q (F0 m bp L (st.map (vz (rho B hv tn sb)))) := by
  obtain ⟨n, hd, hI⟩ := ckE_dec ck
  have hfix : CallFix p m c (byM mi) (mt mi).2.1 s args gtb (yM mi).cls := ⟨hx, hb, hml, hown, hts⟩
  have hback : ∀ {a' : Array Value}, va_Run p l e R s m args below meth c H locs cells slots (h1.1.1 - h.1.1) (h1.1.2 - h.1.2) (F0 m bp L (st.map (vz (rho B hv tn sb)))) (st'.map (vz (rho B hv tn sb))) (PostM B hv tn sb cA D r1 h1 a') (AB B) → bpc mi j = some (bp + 3) → W p l e R s m args below meth c H locs cells slots Q (F0 m bp L (st.map (vz (rho B hv tn sb)))) := by
    intro a' hr hj
    refine sn_back hr hS0 (fun H1 l1 hR1 hS1 => ?_)
    have k2 := kk H1 l1 _ hR1 hS1 hj
    rw [List.map_append] at k2
    have e9 : (r1.map (vz (rho B hv tn sb))).toList = r1.toList.map (vz (rho B hv tn sb)) := by cases r1 <;> rfl
    rw [e9]
    exact k2
  have hroom : ∀ {k}, ckY k = true → (rmM d (h1.1.1 - h.1.1) (h1.1.2 - h.1.2)).frames + 1 ≤ R.frames ∧ 8 + ((mt k).2.1 + 11) + (rmM d (h1.1.1 - h.1.1) (h1.1.2 - h.1.2)).locals ≤ R.locals := by
    intro k hy
    have := ckY_max hy
    exact ⟨hfr, by show 8 + ((mt k).2.1 + 11) + 100 * (d + 1) ≤ R.locals; omega⟩
  unfold stepC at hst
  unfold ckI at hI
  split at hst
  case h_1 ix => -- static
    dsimp only at hI
    simp only [Bool.and_eq_true, decide_eq_true_eq] at hI
    obtain ⟨⟨rfl, hf⟩, hw⟩ := hI
    split at hst
    · rename_i hq
      obtain ⟨hb1, hb2, hu⟩ := hq
      rw [Option.some.injEq, Prod.mk.injEq, Prod.mk.injEq] at hst
      obtain ⟨rfl, hav, hdr⟩ := hst
      rw [if_neg (by omega), if_neg (by omega), if_neg (by omega)] at hw
      simp only [Bool.and_eq_true, decide_eq_true_eq] at hw
      obtain ⟨⟨⟨⟨-, hk⟩, hlk⟩, hstc⟩, hnp⟩ := hw
      have hy := cy _ hk
      have hsplit := take_back (rho B hv tn sb) hav hdr
      have hlen : (av.map (vz (rho B hv tn sb))).length = b := by rw [List.length_map, ← hav, List.length_reverse, List.length_take]; omega
      have hu8 : 2 * (F0 m bp L (st.map (vz (rho B hv tn sb)))).monitorRoom + ((st'.map (vz (rho B hv tn sb))).map fun v => v.category).sum ≤ 8 := by
        rw [unS_vz, ← hdr]
        show 2 * 0 + _ ≤ 8
        omega
      have hp : PreS s H (PreM B hv tn sb cA D av h) (av.map (vz (rho B hv tn sb))) := ⟨PreM.blind, PreM.at hR hS0 hkk⟩
      unfold lkM at hlk
      by_cases h0 : hd0 hs 0 = 0
      · rw [if_pos h0] at hlk
        refine hback (va_runS hfix (hM hk) (va_cwS b hts (gtb_list ?_) rfl rfl rfl ⟨(ckY_cls hy).1, (ckY_cls hy).2, hnp⟩ (hroom hy)) hp rfl hlen hLs hsplit hu8 hd ⟨hrc, hrs⟩) (fall_of hf)
        intro w hw
        unfold va_wsS at hw
        simp only [List.cons_append, List.nil_append, List.mem_cons] at hw
        rcases hw with rfl | rfl | rfl | hw
        · exact wAt_mem hlk
        · exact wAt_mem hstc
        · exact ckY_ini hy
        · exact wsM_in hy w hw
      · rw [if_neg h0, decide_eq_true_eq] at hlk
        refine hback (va_runSN hfix (hM hk) ⟨va_cnB b hts (gtb_list (wsM_in hy)) rfl rfl rfl (hkk.2.2.1 _ hlk) (hts _ (ckY_ini hy)) ⟨(ckY_cls hy).1, (ckY_cls hy).2, hnp⟩ (hroom hy), hts _ (wAt_mem hstc), trivial⟩ hp rfl hlen hLs hsplit hu8 hd ⟨hrc, hrs⟩) (fall_of hf)
    · cases hst
  case h_2 ix => -- virtual
    dsimp only at hI
    simp only [Bool.and_eq_true, decide_eq_true_eq] at hI
    obtain ⟨⟨⟨⟨⟨⟨⟨⟨⟨rfl, hf⟩, hk⟩, hc9⟩, hcl⟩, h0⟩, hlk⟩, hinst⟩, hsel⟩, hnp⟩ := hI
    split at hst
    · rename_i hq
      obtain ⟨hb2, hu⟩ := hq
      split at hst
      · rename_i q av0 hav
        split at hst
        · rename_i ci fs ho
          split at hst
          · rename_i hts2
            obtain ⟨hci, h3⟩ := hts2
            rw [Option.some.injEq, Prod.mk.injEq, Prod.mk.injEq] at hst
            obtain ⟨rfl, rfl, hdr⟩ := hst
            have hy := cy _ hk
            have hci2 : ts.getD 0 0 = ci := by rw [List.getD_eq_getElem?_getD, hci]; rfl
            rw [hci2] at hc9 hcl
            have hsplit := take_back (rho B hv tn sb) hav hdr
            have hsplit2 : st.map (vz (rho B hv tn sb)) = (av0.map (vz (rho B hv tn sb))).reverse ++ .ref (rho B hv tn sb q) :: st'.map (vz (rho B hv tn sb)) := by
              rw [hsplit, List.map_cons, List.reverse_cons, List.append_assoc]
              rfl
            have hb0 : (Value.ref q :: av0).length = b := by rw [← hav, List.length_reverse, List.length_take]; omega
            have hu8 : 2 * (F0 m bp L (st.map (vz (rho B hv tn sb)))).monitorRoom + ((st'.map (vz (rho B hv tn sb))).map fun v => v.category).sum ≤ 8 := by
              rw [unS_vz, ← hdr]
              show 2 * 0 + _ ≤ 8
              omega
            obtain ⟨-, -, hat⟩ := hR.obj ho hc9
            have hP1 : va_P D clT [(rho B hv tn sb q, .inr (ci, fs.map (vz (rho B hv tn sb))))] H := fun k2 q2 hk2 => by
              cases k2 with
              | zero => cases hk2; exact hat
              | succ k2 => simp at hk2
            have hrecv := va_recv hkk.1 hP1 (cl_at hc9) (q0 := 0) rfl
            have hnp2 : npD (yM a) = some av0.length := by
              cases hnn : npD (yM a) with
              | none => rw [hnn] at hnp; cases hnp
              | some z =>
                rw [hnn] at hnp
                have : z + 1 = b := by simpa using hnp
                simp only [List.length_cons] at hb0
                congr 1
                omega
            have hp : PreV s H (yM a).cls (rho B hv tn sb q) (PreM B hv tn sb cA D (.ref q :: av0) h) (av0.map (vz (rho B hv tn sb))) := ⟨PreM.blind, by rw [hcl]; exact hrecv, PreM.at hR hS0 hkk⟩
            unfold lkM at hlk
            rw [if_pos h0] at hlk
            refine hback (va_runV hfix (hM hk) (cwV av0.length hts (gtb_list ?_) rfl rfl rfl ⟨rfl, (ckY_cls hy).1, (ckY_cls hy).2, hnp2⟩ (hroom hy)) hp rfl (by rw [List.length_map]) hLs hsplit2 hu8 hd ⟨hrc, hrs⟩) (fall_of hf)
            intro w hw
            unfold wsV at hw
            simp only [List.cons_append, List.nil_append, List.mem_cons] at hw
            rcases hw with rfl | rfl | rfl | rfl | hw
            · exact wAt_mem hlk
            · exact wAt_mem hinst
            · exact wAt_mem hsel
            · exact ckY_ini hy
            · exact wsM_in hy w hw
          · cases hst
        · cases hst
      · cases hst
    · cases hst
  case h_3 ix => -- special
    dsimp only at hI
    simp only [Bool.and_eq_true, decide_eq_true_eq] at hI
    obtain ⟨⟨rfl, hf⟩, hw⟩ := hI
    split at hst
    · rename_i hq
      obtain ⟨hb1, hb2, hu⟩ := hq
      rw [if_neg (by omega)] at hw
      simp only [Bool.and_eq_true, decide_eq_true_eq] at hw
      obtain ⟨⟨⟨⟨⟨⟨-, hk⟩, hnm⟩, hret⟩, hlk⟩, hinst⟩, hnp⟩ := hw
      split at hst
      · rename_i q av0 hav
        rw [Option.some.injEq, Prod.mk.injEq, Prod.mk.injEq] at hst
        obtain ⟨rfl, rfl, hdr⟩ := hst
        have hy := cy _ hk
        have hsplit := take_back (rho B hv tn sb) hav hdr
        have hsplit2 : st.map (vz (rho B hv tn sb)) = (av0.map (vz (rho B hv tn sb))).reverse ++ .ref (rho B hv tn sb q) :: st'.map (vz (rho B hv tn sb)) := by
          rw [hsplit, List.map_cons, List.reverse_cons, List.append_assoc]
          rfl
        have hb0 : (Value.ref q :: av0).length = b := by rw [← hav, List.length_reverse, List.length_take]; omega
        have hu8 : 2 * (F0 m bp L (st.map (vz (rho B hv tn sb)))).monitorRoom + ((st'.map (vz (rho B hv tn sb))).map fun v => v.category).sum ≤ 8 := by
          rw [unS_vz, ← hdr]
          show 2 * 0 + _ ≤ 8
          omega
        have hnp2 : npD (yM a) = some av0.length := by
          cases hnn : npD (yM a) with
          | none => rw [hnn] at hnp; cases hnp
          | some z =>
            rw [hnn] at hnp
            have : z + 1 = b := by simpa using hnp
            simp only [List.length_cons] at hb0
            congr 1
            omega
        have hp : PreS s H (PreM B hv tn sb cA D (.ref q :: av0) h) (.ref (rho B hv tn sb q) :: av0.map (vz (rho B hv tn sb))) := ⟨PreM.blind, PreM.at hR hS0 hkk⟩
        have hws : wsM a = .code (yM a) (byM a) (mt a).2.1 none :: gtb := by unfold wsM; rw [hret]
        unfold lkM at hlk
        by_cases h0 : hd0 hs 0 = 0
        · rw [if_pos h0] at hlk
          exact hback (va_runI hfix (hM hk) (cwI av0.length hts (gtb_list (wsM_in hy)) hws rfl rfl (hts _ (ckY_ini hy)) (hts _ (wAt_mem hlk)) (hts _ (wAt_mem hinst)) hnm ⟨(ckY_cls hy).1, (ckY_cls hy).2, hnp2⟩ (hroom hy)) hp rfl (by rw [List.length_map]) hLs hsplit2 hu8 hd ⟨hrc, hrs⟩) (fall_of hf)
        · rw [if_neg h0, decide_eq_true_eq] at hlk
          exact hback (va_runIN hfix (hM hk) ⟨va_cnB av0.length hts (gtb_list (wsM_in hy)) hws rfl rfl (hkk.2.2.1 _ hlk) (hts _ (ckY_ini hy)) ⟨(ckY_cls hy).1, (ckY_cls hy).2, hnp2⟩ (hroom hy), hnm, hts _ (wAt_mem hinst)⟩ hp rfl (by rw [List.length_map]) hLs hsplit2 hu8 hd ⟨hrc, hrs⟩) (fall_of hf)
      · cases hst
    · cases hst
  case h_4 => cases hst
end
set_option maxHeartbeats 4000000 in
theorem snd {l : Launch} {B hv tn sb : Nat} {cA : FieldType → ClassId} {D : va_G} (ck : ∀ mi, mi < 249 → ∀ (i : Nat) (e : EI), (mt mi).1[i]? = some e → ∃ hs, ckE mi e hs = true) (cy : ∀ mi, mi < 248 → ckY mi = true) :
    ∀ (n d mi i : Nat) (ls : ALs) (st : List Value) (h : AH) (r : Option Value) (h' : AH), run fty dvl mt n d mi i ls st h = some (r, h') → mi < 249 → SndW l B hv tn sb cA D d mi i ls st h r h' := by
  intro n
  induction n with
  | zero => intro d mi i ls st h r h' hr; cases hr
  | succ n ih =>
    intro d mi i ls st h r h' hr hmi p e R s m args below meth c H locs cells slots mc ms bp L hx hb hrt hml hown hts hkk hin hlocks hfr hlo hmc hms hbp hl hR hS0 hcc hss
    have hgr := run_grow _ _ _ _ _ _ _ _ _ hr
    unfold run at hr
    cases he : (mt mi).1[i]? with
    | none => rw [he] at hr; cases hr
    | some e0 =>
      rw [he] at hr
      dsimp only at hr
      obtain ⟨hs, hck⟩ := ck mi hmi i e0 he
      obtain ⟨bp0, ins, x, y, j, a, b, ts⟩ := e0
      have hbe : bp = bp0 := by
        unfold bpc at hbp
        rw [he] at hbp
        exact (Option.some.inj hbp).symm
      subst hbe
      have hLs : L.size = (mt mi).2.1 := hl.2.1
      have hLm : L.size = c.maxLocals := by rw [hml]; exact hLs
      cases hxx : nx fty dvl (mt mi).2.2 (bp, ins, x, y, j, a, b, ts) ls st h with
      | none => rw [hxx] at hr; cases hr
      | some q =>
        rw [hxx] at hr
        unfold nx at hxx
        dsimp only at hxx
        split at hxx
        · -- simple
          rename_i ls' st' hs1
          cases hxx
          exact sn1 hx hb hown hts hck hs1 hl (fun L' bq hl' hbq => ih _ _ _ _ _ _ _ _ hr hmi p e R s m args below meth c H locs cells slots mc ms bq L' hx hb hrt hml hown hts hkk hin hlocks hfr hlo hmc hms hbq hl' hR hS0 hcc hss)
        · split at hxx
          · -- branch
            rename_i cnd st' hs1
            cases hxx
            exact snB hx hb hck hs1 (fun bq hbq => ih _ _ _ _ _ _ _ _ hr hmi p e R s m args below meth c H locs cells slots mc ms bq L hx hb hrt hml hown hts hkk hin hlocks hfr hlo hmc hms hbq hl hR hS0 hcc hss)
          · split at hxx
            · -- cells
              rename_i st' h1 hs1
              cases hxx
              have g1 := stepH_grow hs1
              have g2 := run_grow _ _ _ _ _ _ _ _ _ hr
              exact snH hx hb hown hts hkk hin hR hS0 hck hs1 (by omega) (by omega) (fun H1 l1 bq hR1 hS1 hbq => ih _ _ _ _ _ _ _ _ hr hmi p e R s m args below meth c H1 l1 _ _ mc ms bq L hx hb hrt hml hown hts hkk hin hlocks hfr hlo hmc hms hbq hl hR1 hS1 (by omega) (by omega))
            · split at hxx
              · -- a call
                rename_i k av st' hs1
                cases hxx
                dsimp only at hr
                cases d with
                | zero => cases hr
                | succ d =>
                  dsimp only at hr
                  by_cases hle : (av.flatMap slA).length ≤ (mt k).2.1
                  · rw [if_pos hle] at hr
                    cases hc : run fty dvl mt n d k 0 (enL av (mt k).2.1) [] h with
                    | none => rw [hc] at hr; cases hr
                    | some q =>
                      rw [hc] at hr
                      obtain ⟨r1, h1⟩ := q
                      have g1 := run_grow _ _ _ _ _ _ _ _ _ hc
                      have g2 := run_grow _ _ _ _ _ _ _ _ _ hr
                      exact snC hx hb hml hLs hown hts hkk hR hS0 hfr hlo hck hs1 cy (fun hk => snd_met (cy k hk) hle (ih _ _ _ _ _ _ _ _ hc (by omega))) (by omega) (by omega) (fun H1 l1 bq hR1 hS1 hbq => ih _ _ _ _ _ _ _ _ hr hmi p e R s m args below meth c H1 l1 _ _ mc ms bq L hx hb hrt hml hown hts hkk hin hlocks hfr hlo hmc hms hbq hl hR1 hS1 (by omega) (by omega))
                  · rw [if_neg hle] at hr
                    cases hr
              · split at hxx
                · -- the end
                  rename_i r1 hs1
                  cases hxx
                  cases hr
                  rw [Nat.sub_self, Nat.add_zero] at hcc hss
                  subst hcc; subst hss
                  exact snR hx hb hrt hlocks hR hS0 hck hs1
                · split at hxx
                  · rename_i st' hs1
                    cases hxx
                    exact snD hx hb hck hs1 (fun bq hbq => ih _ _ _ _ _ _ _ _ hr hmi p e R s m args below meth c H locs cells slots mc ms bq L hx hb hrt hml hown hts hkk hin hlocks hfr hlo hmc hms hbq hl hR hS0 hcc hss)
                  · split at hxx
                    · rename_i t st' hs1
                      cases hxx
                      exact snW hx hb hck hs1 (fun bq hbq => ih _ _ _ _ _ _ _ _ hr hmi p e R s m args below meth c H locs cells slots mc ms bq L hx hb hrt hml hown hts hkk hin hlocks hfr hlo hmc hms hbq hl hR hS0 hcc hss)
                    · split at hxx
                      · rename_i st' hs1
                        cases hxx
                        exact snO hx hb hown hts hLm (by omega) (by omega) (by omega) (by omega) hck hs1 (fun bq hbq => ih _ _ _ _ _ _ _ _ hr hmi p e R s m args below meth c H locs cells slots mc ms bq L hx hb hrt hml hown hts hkk hin hlocks hfr hlo hmc hms hbq hl hR hS0 hcc hss)
                      · split at hxx
                        · rename_i st' h1 hs1
                          cases hxx
                          exact snY hx hb hLm.symm hown hts hkk.1 hR hS0 (by omega) (by omega) hck hs1 (fun H1 l1 bq hR1 hS1 hbq he1 => ih _ _ _ _ _ _ _ _ hr hmi p e R s m args below meth c H1 l1 cells slots mc ms bq L hx hb hrt hml hown hts hkk hin hlocks hfr hlo hmc hms hbq hl hR1 hS1 (by rw [he1]; exact hcc) (by rw [he1]; exact hss))
                        · cases hxx
