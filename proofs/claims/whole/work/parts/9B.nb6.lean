/-! THE CLASS, 31: NestedBodies: tapes -/
theorem R_acp {d mi i nL : Nat} {cd : List EI} {ret : Option FieldType} {bp j a : Nat} {x : Int32} {y : Int64} {ts : List Nat} {ls : ALs} {h : AH} {Q : Option Value → AH → Prop} {ix n0 n1 r0 r1 i1 j1 k : Nat} {f g : Nat → Int64} (hm : mt mi = (cd, nL, ret)) (he : cd[i]? = some (bp, .invokestatic ix, x, y, j, a, 1000, ts)) (h0 : h.2 r0 = longs n0 f) (h1 : h.2 r1 = longs n1 g) (hi : i1 + k ≤ n0) (hj : j1 + k ≤ n1) (b0 : n0 < 100000) (b1 : n1 < 100000) (c0 : 3 ≤ r0) (c1 : 3 ≤ r1) (kk : R d mi j ls [] (upH h r1 (longs n1 (va_cpy f g i1 j1 k))) Q) : R d mi i ls [.int (nI k), .int (nI j1), .ref r1, .int (nI i1), .ref r0] h Q := by
  refine R_nx hm he ?_ kk
  unfold nx
  dsimp only [step1, stepB, stepH, stepC, stepR, stepD, stepW]
  rw [if_neg (by omega)]
  have e : stepO (.invokestatic ix) 1000 [.int (nI k), .int (nI j1), .ref r1, .int (nI i1), .ref r0] = none := by
    dsimp only [stepO]
    split
    · rw [if_neg (by omega), if_neg (by omega)]
    · rfl
  rw [e]
  dsimp only [stepY]
  rw [if_pos rfl, h0]
  dsimp only
  rw [h1]
  dsimp only
  rw [nI_clamp (by omega), nI_clamp (by omega), nI_clamp (by omega), if_pos ⟨nI_pos (by omega), nI_pos (by omega), nI_pos (by omega), hi, hj, c0, c1, by decide⟩]
section
variable {h h' : AH} {U K V : US} {im : Bool} {tx : List Nat} {T : TPS}
theorem tpV_t {t : Nat} (ht : t < 6) : tpV (nI t) = .ref (64 + 2 * t) := by
  unfold tpV tpI
  rw [nI_toInt (by omega), decide_eq_true (by omega), if_pos rfl, nI_clamp (by omega)]
theorem tpV_f {v : Int32} (h : tpI v = false) : tpV v = .null := by
  unfold tpV
  rw [if_neg (by rw [h]; decide)]
theorem nb_tape (d : Nat) (hI : NBI h U K im tx T) (v o n : Int32) : ∃ h', NQ h U K im tx (specTape T v o n).2 h' ∧ Cl (d + 1) 128 [.ref 3, .int v, .int o, .int n] h (some (.int (specTape T v o n).1)) h' := by
  have kC9 := co_NB_tape
  refine Cl_eH kC9 rfl rfl ?_
  unfold specTape
  repeat (refine R_s kC9 rfl rfl ?_)
  refine R_cv kC9 rfl rfl rfl rfl hI.ob (by omega) (nb_tapeAt d hI v) ?_
  cases ht : tpI v with
  | false =>
    rw [if_neg (by decide), tpV_f ht]
    repeat (refine R_s kC9 rfl rfl ?_)
    refine R_b (c := false) kC9 rfl rfl rfl (fun z => by cases z) (fun _ => ?_)
    repeat (refine R_s kC9 rfl rfl ?_)
    exact R_ri kC9 rfl ⟨rfl, NQ.rfl' hI⟩
  | true =>
    rw [if_pos rfl]
    obtain ⟨t, t6, rfl⟩ := tpI_of ht
    rw [tpV_t t6, nI_clamp (by omega)]
    have hT := hI.tp t6
    have a1 : (-1 : Int32).toInt = -1 := by decide
    have a4 : (nI 4).toInt = 4 := by decide
    have a60 : (nI 60).toInt = 60 := by decide
    repeat (refine R_s kC9 rfl rfl ?_)
    refine R_b (c := true) kC9 rfl rfl rfl (fun _ => ?_) (fun z => by cases z)
    repeat (refine R_s kC9 rfl rfl ?_)
    refine Rr_ne kC9 rfl (fun hd => ?_) (fun hd => ?_)
    · have hd1 : ¬ o.toInt = -1 := fun z => hd (Int32.toInt_inj.mp (by rw [z]; rfl))
      repeat (refine R_s kC9 rfl rfl ?_)
      refine Zr_lt kC9 rfl (fun he => ?_) (fun he => ?_)
      · rw [tI_lt, tI_0] at he
        rw [if_pos (Or.inl (by omega))]
        repeat (refine R_s kC9 rfl rfl ?_)
        exact R_ri kC9 rfl ⟨rfl, NQ.rfl' hI⟩
      · rw [tI_lt, tI_0] at he
        repeat (refine R_s kC9 rfl rfl ?_)
        refine Rr_gt kC9 rfl (fun hf => ?_) (fun hf => ?_)
        · rw [tI_lt, a4] at hf
          rw [if_pos (Or.inl (by omega))]
          repeat (refine R_s kC9 rfl rfl ?_)
          exact R_ri kC9 rfl ⟨rfl, NQ.rfl' hI⟩
        · rw [tI_lt, a4] at hf
          repeat (refine R_s kC9 rfl rfl ?_)
          refine Rr_le kC9 rfl (fun hg => ?_) (fun hg => ?_)
          · rw [tI_le, a60] at hg
            rw [if_neg (fun z => by
              rcases z with z | z
              · omega
              · omega)]
            repeat (refine R_s kC9 rfl rfl ?_)
            refine Zr_ge kC9 rfl (fun hh => ?_) (fun hh => ?_)
            · have n0 : ¬ n < 0 := by rw [tI_lt, tI_0]; rw [tI_le, tI_0] at hh; omega
              rw [if_neg (fun z => by rw [tI_le, tI_0] at hh; omega)]
              obtain ⟨k, hk, rfl⟩ := nI_of n0
              rw [nI_toInt hk] at hg
              rw [if_neg hd, nI_clamp hk]
              obtain ⟨h2, ⟨x2, T2⟩, c2⟩ := cl_TA_hold d hT o (k := k) (by omega)
              repeat (refine R_s kC9 rfl rfl ?_)
              refine R_cv kC9 rfl rfl rfl rfl hT.2.2.1 (by omega) c2 ?_
              repeat (refine R_s kC9 rfl rfl ?_)
              exact R_ri kC9 rfl ⟨rfl, x2.mono (by omega) (by omega), hI.tape t6 (x2.mono (by omega) (by omega)) T2⟩
            · rw [if_pos ⟨hd, by rw [tI_le, tI_0] at hh; omega⟩]
              repeat (refine R_s kC9 rfl rfl ?_)
              exact R_ri kC9 rfl ⟨rfl, NQ.rfl' hI⟩
          · rw [tI_le, a60] at hg
            rw [if_pos (Or.inr ⟨hd, by omega⟩)]
            repeat (refine R_s kC9 rfl rfl ?_)
            exact R_ri kC9 rfl ⟨rfl, NQ.rfl' hI⟩
    · rw [if_neg (fun z => by
        rcases z with z | z
        · rw [hd, a1] at z; omega
        · exact z.1 hd), if_neg (fun z => z.1 hd), if_pos hd, hd]
      obtain ⟨h2, ⟨x2, T2⟩, c2⟩ := cl_TA_hold d hT (-1) (k := 0) (by omega)
      repeat (refine R_s kC9 rfl rfl ?_)
      refine R_cv kC9 rfl rfl rfl rfl hT.2.2.1 (by omega) c2 ?_
      repeat (refine R_s kC9 rfl rfl ?_)
      exact R_ri kC9 rfl ⟨rfl, x2.mono (by omega) (by omega), hI.tape t6 (x2.mono (by omega) (by omega)) T2⟩
theorem nb_item (d : Nat) (hI : NBI h U K im tx T) (hok : TPok T) (v i : Int32) (w : Int64) : ∃ h', NQ h U K im tx (specItem T v i w).2 h' ∧ Cl (d + 2) 129 [.ref 3, .int v, .int i, .long w] h (some (.int (specItem T v i w).1)) h' := by
  have kC9 := co_NB_item
  refine Cl_eH kC9 rfl rfl ?_
  unfold specItem
  repeat (refine R_s kC9 rfl rfl ?_)
  refine R_cv kC9 rfl rfl rfl rfl hI.ob (by omega) (nb_tapeAt (d + 1) hI v) ?_
  cases ht : tpI v with
  | false =>
    rw [if_neg (by decide), tpV_f ht]
    repeat (refine R_s kC9 rfl rfl ?_)
    refine R_b (c := false) kC9 rfl rfl rfl (fun z => by cases z) (fun _ => ?_)
    repeat (refine R_s kC9 rfl rfl ?_)
    exact R_ri kC9 rfl ⟨rfl, NQ.rfl' hI⟩
  | true =>
    rw [if_pos rfl]
    obtain ⟨t, t6, rfl⟩ := tpI_of ht
    rw [tpV_t t6, nI_clamp (by omega)]
    have hT := hI.tp t6
    repeat (refine R_s kC9 rfl rfl ?_)
    refine R_b (c := true) kC9 rfl rfl rfl (fun _ => ?_) (fun z => by cases z)
    repeat (refine R_s kC9 rfl rfl ?_)
    refine R_get kC9 rfl (hT.2.2.1) rfl ?_
    repeat (refine R_s kC9 rfl rfl ?_)
    refine Rr_ne kC9 rfl (fun hd => ?_) (fun hd => ?_)
    · rw [if_neg hd]
      have hr := sp_TA_hasRun (d + 1) hT i (nI 1)
      rw [run1] at hr
      repeat (refine R_s kC9 rfl rfl ?_)
      refine R_cv kC9 rfl rfl rfl rfl hT.2.2.1 (by omega) hr ?_
      refine ZB_ne kC9 rfl (fun he => ?_) (fun he => ?_)
      · rw [if_pos he]
        obtain ⟨k, k1, k2, rfl⟩ := itI_of he
        rw [nI_clamp k2]
        obtain ⟨o, o4, ho⟩ : ∃ o, o ≤ 4 ∧ (T t).1 = nI o := by
          rcases (hok t t6).2 with z | z
          · exact absurd z.1 hd
          · exact z
        have hT2 : TapC h (64 + 2 * t) (nI o, (T t).2) := by rw [← ho]; exact hT
        obtain ⟨h2, ⟨x2, T2⟩, c2⟩ := cl_TA_put d o4 k1 hT2 w
        rw [← ho] at T2
        repeat (refine R_s kC9 rfl rfl ?_)
        refine R_cv kC9 rfl rfl rfl rfl hT.2.2.1 (by omega) c2 ?_
        repeat (refine R_s kC9 rfl rfl ?_)
        exact R_ri kC9 rfl ⟨rfl, x2.mono (by omega) (by omega), hI.tape t6 (x2.mono (by omega) (by omega)) T2⟩
      · rw [if_neg (by rw [he]; decide)]
        repeat (refine R_s kC9 rfl rfl ?_)
        exact R_ri kC9 rfl ⟨rfl, NQ.rfl' hI⟩
    · rw [if_pos hd]
      repeat (refine R_s kC9 rfl rfl ?_)
      exact R_ri kC9 rfl ⟨rfl, NQ.rfl' hI⟩
theorem nb_peek (d : Nat) (hI : NBI h U K im tx T) (v i : Int32) : Cl (d + 2) 130 [.ref 3, .int v, .int i] h (some (.long (peekR T v i))) h := by
  have kC9 := co_NB_peek
  refine Cl_of kC9 rfl rfl ?_
  unfold peekR
  repeat (refine R_s kC9 rfl rfl ?_)
  refine R_cv kC9 rfl rfl rfl rfl hI.ob (by omega) (nb_tapeAt (d + 1) hI v) ?_
  cases ht : tpI v with
  | false =>
    rw [if_neg (fun z => by cases z.1), tpV_f ht]
    repeat (refine R_s kC9 rfl rfl ?_)
    refine R_b (c := true) kC9 rfl rfl rfl (fun _ => ?_) (fun z => by cases z)
    repeat (refine R_s kC9 rfl rfl ?_)
    refine R_g kC9 rfl ?_
    exact R_rl kC9 rfl ⟨rfl, rfl⟩
  | true =>
    obtain ⟨t, t6, rfl⟩ := tpI_of ht
    rw [tpV_t t6, nI_clamp (by omega)]
    have hT := hI.tp t6
    have hr := sp_TA_hasRun (d + 1) hT i (nI 1)
    rw [run1] at hr
    repeat (refine R_s kC9 rfl rfl ?_)
    refine R_b (c := false) kC9 rfl rfl rfl (fun z => by cases z) (fun _ => ?_)
    repeat (refine R_s kC9 rfl rfl ?_)
    refine R_cv kC9 rfl rfl rfl rfl hT.2.2.1 (by omega) hr ?_
    refine ZB_ne kC9 rfl (fun he => ?_) (fun he => ?_)
    · rw [if_pos ⟨rfl, he⟩]
      have hg := sp_TA_get d hT i
      rw [if_pos he] at hg
      repeat (refine R_s kC9 rfl rfl ?_)
      refine R_cv kC9 rfl rfl rfl rfl hT.2.2.1 (by omega) hg ?_
      exact R_rl kC9 rfl ⟨rfl, rfl⟩
    · rw [if_neg (fun z => by rw [he] at z; cases z.2)]
      repeat (refine R_s kC9 rfl rfl ?_)
      refine R_g kC9 rfl ?_
      exact R_rl kC9 rfl ⟨rfl, rfl⟩
theorem nb_shift (d : Nat) (hI : NBI h U K im tx T) (v i w j n : Int32) : ∃ h', NQ h U K im tx (specShift T v i w j n).2 h' ∧ Cl (d + 1) 131 [.ref 3, .int v, .int i, .int w, .int j, .int n] h (some (.int (specShift T v i w j n).1)) h' := by
  have kC9 := co_NB_shift
  refine Cl_eH kC9 rfl rfl ?_
  unfold specShift
  repeat (refine R_s kC9 rfl rfl ?_)
  refine R_cv kC9 rfl rfl rfl rfl hI.ob (by omega) (nb_tapeAt d hI v) ?_
  cases ht : tpI v with
  | false =>
    rw [Bool.false_and, if_neg (by decide), tpV_f ht]
    repeat (refine R_s kC9 rfl rfl ?_)
    refine R_cv kC9 rfl rfl rfl rfl hI.ob (by omega) (nb_tapeAt d hI w) ?_
    have tail : ∀ x : Value, R (d + 1) 131 8 [some (.ref 3), some (.int v), some (.int i), some (.int w), some (.int j), some (.int n), some .null, some x] [] h (fun r2 h' => r2 = some (.int (-1)) ∧ NQ h U K im tx T h') := by
      intro x
      repeat (refine R_s kC9 rfl rfl ?_)
      refine R_b (c := true) kC9 rfl rfl rfl (fun _ => ?_) (fun z => by cases z)
      repeat (refine R_s kC9 rfl rfl ?_)
      exact R_ri kC9 rfl ⟨rfl, NQ.rfl' hI⟩
    cases hw : tpI w with
    | false =>
      rw [tpV_f hw]
      iterate 1 (refine R_s kC9 rfl rfl ?_)
      exact tail _
    | true =>
      obtain ⟨t2, t62, rfl⟩ := tpI_of hw
      rw [tpV_t t62]
      iterate 1 (refine R_s kC9 rfl rfl ?_)
      exact tail _
  | true =>
    rw [Bool.true_and]
    obtain ⟨t, t6, rfl⟩ := tpI_of ht
    rw [tpV_t t6, nI_clamp (by omega)]
    have hT := hI.tp t6
    repeat (refine R_s kC9 rfl rfl ?_)
    refine R_cv kC9 rfl rfl rfl rfl hI.ob (by omega) (nb_tapeAt d hI w) ?_
    cases hw : tpI w with
    | false =>
      rw [if_neg (by decide), tpV_f hw]
      repeat (refine R_s kC9 rfl rfl ?_)
      refine R_b (c := false) kC9 rfl rfl rfl (fun z => by cases z) (fun _ => ?_)
      repeat (refine R_s kC9 rfl rfl ?_)
      refine R_b (c := false) kC9 rfl rfl rfl (fun z => by cases z) (fun _ => ?_)
      repeat (refine R_s kC9 rfl rfl ?_)
      exact R_ri kC9 rfl ⟨rfl, NQ.rfl' hI⟩
    | true =>
      rw [if_pos rfl]
      obtain ⟨t2, t62, rfl⟩ := tpI_of hw
      rw [tpV_t t62, nI_clamp (by omega)]
      have hT2 := hI.tp t62
      repeat (refine R_s kC9 rfl rfl ?_)
      refine R_b (c := false) kC9 rfl rfl rfl (fun z => by cases z) (fun _ => ?_)
      repeat (refine R_s kC9 rfl rfl ?_)
      refine R_b (c := true) kC9 rfl rfl rfl (fun _ => ?_) (fun z => by cases z)
      repeat (refine R_s kC9 rfl rfl ?_)
      refine R_get kC9 rfl (hT.2.2.1) rfl ?_
      repeat (refine R_s kC9 rfl rfl ?_)
      refine Rr_eq kC9 rfl (fun hd => ?_) (fun hd => ?_)
      · rw [if_pos (Or.inl hd)]
        repeat (refine R_s kC9 rfl rfl ?_)
        exact R_ri kC9 rfl ⟨rfl, NQ.rfl' hI⟩
      · repeat (refine R_s kC9 rfl rfl ?_)
        refine R_get kC9 rfl (hT2.2.2.1) rfl ?_
        repeat (refine R_s kC9 rfl rfl ?_)
        refine Rr_ne kC9 rfl (fun he => ?_) (fun he => ?_)
        · rw [if_neg (fun z => by
            rcases z with z | z
            · exact hd z
            · exact he z)]
          repeat (refine R_s kC9 rfl rfl ?_)
          refine R_get kC9 rfl (hT.2.2.1) rfl ?_
          repeat (refine R_s kC9 rfl rfl ?_)
          refine R_get kC9 rfl (hT2.2.2.1) rfl ?_
          refine Rr_eq kC9 rfl (fun hf => ?_) (fun hf => ?_)
          · rw [if_neg (fun z => z hf)]
            have bad : shNo (T t).2.length (T t2).2.length i j n → R (d + 1) 131 41 [some (.ref 3), some (.int (nI t)), some (.int i), some (.int (nI t2)), some (.int j), some (.int n), some (.ref (64 + 2 * t)), some (.ref (64 + 2 * t2))] [] h (fun r2 h' => r2 = some (.int (if pb (shNo (T t).2.length (T t2).2.length i j n) = true then (-13, T) else (n, updT T t2 ((T t2).1, cpyL (T t).2 (T t2).2 i.toNatClampNeg j.toNatClampNeg n.toNatClampNeg))).1) ∧ NQ h U K im tx (if pb (shNo (T t).2.length (T t2).2.length i j n) = true then (-13, T) else (n, updT T t2 ((T t2).1, cpyL (T t).2 (T t2).2 i.toNatClampNeg j.toNatClampNeg n.toNatClampNeg))).2 h') := by
              intro hb
              rw [if_pos (pb_true.mpr hb)]
              repeat (refine R_s kC9 rfl rfl ?_)
              exact R_ri kC9 rfl ⟨rfl, NQ.rfl' hI⟩
            repeat (refine R_s kC9 rfl rfl ?_)
            refine R_cv kC9 rfl rfl rfl rfl hT.2.2.1 (by omega) (sp_TA_hasRun d hT i n) ?_
            refine ZB_eq kC9 rfl (fun hg => ?_) (fun hg => ?_)
            · refine bad ?_
              have := of_decide_eq_false hg
              unfold shNo
              omega
            · have hg1 := of_decide_eq_true hg
              repeat (refine R_s kC9 rfl rfl ?_)
              refine R_cv kC9 rfl rfl rfl rfl hT2.2.2.1 (by omega) (sp_TA_hasRun d hT2 j n) ?_
              refine ZB_ne kC9 rfl (fun hh => ?_) (fun hh => ?_)
              · have hh1 := of_decide_eq_true hh
                have no : ¬ shNo (T t).2.length (T t2).2.length i j n := by unfold shNo; omega
                rw [if_neg (by rw [pb_false.mpr no]; decide)]
                obtain ⟨ki, ki1, rfl⟩ := nI_of (show ¬ i < 0 by rw [tI_lt, tI_0]; omega)
                obtain ⟨kj, kj1, rfl⟩ := nI_of (show ¬ j < 0 by rw [tI_lt, tI_0]; omega)
                obtain ⟨kn, kn1, rfl⟩ := nI_of (show ¬ n < 0 by rw [tI_lt, tI_0]; omega)
                rw [nI_toInt ki1, nI_toInt kn1] at hg1
                rw [nI_toInt kj1, nI_toInt kn1] at hh1
                rw [nI_clamp ki1, nI_clamp kj1, nI_clamp kn1]
                obtain ⟨q0, q1, q2, F, q3, q4⟩ := hT
                obtain ⟨p0, p1, p2, G, p3, p4⟩ := hT2
                repeat (refine R_s kC9 rfl rfl ?_)
                refine R_get kC9 rfl (q2) rfl ?_
                repeat (refine R_s kC9 rfl rfl ?_)
                refine R_get kC9 rfl (p2) rfl ?_
                repeat (refine R_s kC9 rfl rfl ?_)
                refine R_acp kC9 rfl q3 p3 (i1 := ki) (j1 := kj) (k := kn) (by omega) (by omega) (by omega) (by omega) (by omega) (by omega) ?_
                have x2 : frI (64 + 2 * t2) (65 + 2 * t2) h (upH h (64 + 2 * t2 + 1) (longs 60 (va_cpy F G ki kj kn))) := (frI.refl _ _ _).up _ (by omega) (by omega)
                repeat (refine R_s kC9 rfl rfl ?_)
                refine R_ri kC9 rfl ⟨rfl, x2.mono (by omega) (by omega), hI.tape t62 x2 ⟨by omega, by dsimp only; rw [cpyL_len]; exact p1, ?_, va_cpy F G ki kj kn, upH_at _ _ _, fun u z hz => ?_⟩⟩
                · dsimp only
                  rw [cpyL_len]
                  exact (upH_ne _ _ (by omega)).trans p2
                · dsimp only at hz
                  obtain ⟨z1, z2⟩ := cpyL_at hz
                  rw [z2]
                  by_cases c : kj ≤ u ∧ u < kj + kn
                  · rw [if_pos c, pk_cpy_in c.1 c.2]
                    have hs : (T t).2[ki + (u - kj)]? = some ((T t).2.getD (ki + (u - kj)) 0) := by rw [List.getD_eq_getElem?_getD, List.getElem?_eq_getElem (by omega)]; rfl
                    exact q4 _ _ hs
                  · rw [if_neg c, pk_cpy_out (by omega)]
                    have hs : (T t2).2[u]? = some ((T t2).2.getD u 0) := by rw [List.getD_eq_getElem?_getD, List.getElem?_eq_getElem (by omega)]; rfl
                    exact p4 _ _ hs
              · refine bad ?_
                have := of_decide_eq_false hh
                unfold shNo
                omega
          · rw [if_pos hf]
            repeat (refine R_s kC9 rfl rfl ?_)
            exact R_ri kC9 rfl ⟨rfl, NQ.rfl' hI⟩
        · rw [if_pos (Or.inr he)]
          repeat (refine R_s kC9 rfl rfl ?_)
          exact R_ri kC9 rfl ⟨rfl, NQ.rfl' hI⟩
end
