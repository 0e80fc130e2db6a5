/-! THE CLASS, 24: Setup, Text -/
abbrev chR (ch : List Nat) : List (Int32 × Int32) := ch.map (fun x => (nI x, (0 : Int32)))
def SetC (h : AH) (o : Nat) (U : US) : Prop := 3 ≤ o ∧ h.2 o = objA 5 [.ref (o + 1), .ref (o + 2), .ref (o + 5), .ref (o + 8), .ref (o + 11)] ∧ FamC h (o + 1) U.1 U.2.1 U.2.2.1 ∧ RowsC h (o + 2) 4 (chR U.2.2.2.1) ∧ RowsC h (o + 5) 4 U.2.2.2.2.1 ∧ RowsC h (o + 8) 8 U.2.2.2.2.2.1 ∧ RowsC h (o + 11) 8 U.2.2.2.2.2.2
theorem frI.rows {a b o m : Nat} {h h' : AH} {l : List (Int32 × Int32)} (x : frI a b h h') (hR : RowsC h o m l) (hd : o + 2 < a ∨ b < o) : RowsC h' o m l := hR.congr (fun q q1 q2 => x.2 q (by omega))
theorem frI.get {a b q : Nat} {h h' : AH} {c : AC} (x : frI a b h h') (hR : h.2 q = c) (hd : q < a ∨ b < q) : h'.2 q = c := (x.2 q (by omega)).trans hR
theorem SetC.fr {a b o : Nat} {h h' : AH} {U : US} (hS : SetC h o U) (x : frI a b h h') (hd : o + 13 < a ∨ b < o) : SetC h' o U := by
  obtain ⟨a0, a1, a2, a3, a4, a5, a6⟩ := hS
  exact ⟨a0, x.get a1 (by omega), a2.fr x (by omega), x.rows a3 (by omega), x.rows a4 (by omega), x.rows a5 (by omega), x.rows a6 (by omega)⟩
section
variable {h : AH} {o : Nat} {U : US}
theorem SetC.fam {h' : AH} (hS : SetC h o U) {n : Nat} {S Lm : Int32} (hf : frI (o + 1) (o + 1) h h') (hF : FamC h' (o + 1) n S Lm) : SetC h' o (n, S, Lm, U.2.2.2) := by
  obtain ⟨a0, a1, a2, a3, a4, a5, a6⟩ := hS
  exact ⟨a0, hf.get a1 (by omega), hF, hf.rows a3 (by omega), hf.rows a4 (by omega), hf.rows a5 (by omega), hf.rows a6 (by omega)⟩
theorem SetC.pick {h' : AH} (hS : SetC h o U) {ch : List Nat} (hf : frI (o + 2) (o + 4) h h') (hR : RowsC h' (o + 2) 4 (chR ch)) : SetC h' o (U.1, U.2.1, U.2.2.1, ch, U.2.2.2.2) := by
  obtain ⟨a0, a1, a2, a3, a4, a5, a6⟩ := hS
  exact ⟨a0, hf.get a1 (by omega), a2.fr hf (by omega), hR, hf.rows a4 (by omega), hf.rows a5 (by omega), hf.rows a6 (by omega)⟩
theorem SetC.see {h' : AH} (hS : SetC h o U) {l : List (Int32 × Int32)} (hf : frI (o + 5) (o + 7) h h') (hR : RowsC h' (o + 5) 4 l) : SetC h' o (U.1, U.2.1, U.2.2.1, U.2.2.2.1, l, U.2.2.2.2.2) := by
  obtain ⟨a0, a1, a2, a3, a4, a5, a6⟩ := hS
  exact ⟨a0, hf.get a1 (by omega), a2.fr hf (by omega), hf.rows a3 (by omega), hR, hf.rows a5 (by omega), hf.rows a6 (by omega)⟩
theorem SetC.evt {h' : AH} (hS : SetC h o U) {l : List (Int32 × Int32)} (hf : frI (o + 8) (o + 10) h h') (hR : RowsC h' (o + 8) 8 l) : SetC h' o (U.1, U.2.1, U.2.2.1, U.2.2.2.1, U.2.2.2.2.1, l, U.2.2.2.2.2.2) := by
  obtain ⟨a0, a1, a2, a3, a4, a5, a6⟩ := hS
  exact ⟨a0, hf.get a1 (by omega), a2.fr hf (by omega), hf.rows a3 (by omega), hf.rows a4 (by omega), hR, hf.rows a6 (by omega)⟩
theorem SetC.bok {h' : AH} (hS : SetC h o U) {l : List (Int32 × Int32)} (hf : frI (o + 11) (o + 13) h h') (hR : RowsC h' (o + 11) 8 l) : SetC h' o (U.1, U.2.1, U.2.2.1, U.2.2.2.1, U.2.2.2.2.1, U.2.2.2.2.2.1, l) := by
  obtain ⟨a0, a1, a2, a3, a4, a5, a6⟩ := hS
  exact ⟨a0, hf.get a1 (by omega), a2.fr hf (by omega), hf.rows a3 (by omega), hf.rows a4 (by omega), hf.rows a5 (by omega), hR⟩
theorem cl_SE_copy (d : Nat) {p : Nat} {V : US} (hS : SetC h o U) (hP : SetC h p V) (hdis : p + 13 < o ∨ o + 13 < p) : ∃ h', (frI o (o + 13) h h' ∧ SetC h' o V) ∧ Cl (d + 2) 58 [.ref o, .ref p] h none h' := by
  have kC9 := co_SE_copy
  refine Cl_eH kC9 rfl rfl ?_
  have o3 := hS.1
  repeat (refine R_s kC9 rfl rfl ?_)
  refine R_get kC9 rfl (hS.2.1) rfl ?_
  repeat (refine R_s kC9 rfl rfl ?_)
  refine R_get kC9 rfl (hP.2.1) rfl ?_
  refine R_cv kC9 rfl rfl rfl rfl hS.2.2.1.2 hS.2.2.1.1 (sp_FA_copy (d + 1) hS.2.2.1 hP.2.2.1 (by omega)) ?_
  have f1 : frI (o + 1) (o + 1) h (upH h (o + 1) (objA 2 [.int (nI V.1), .int V.2.1, .int V.2.2.1])) := (frI.refl _ _ _).up _ (by omega) (by omega)
  have S1 := hS.fam f1 (n := V.1) (S := V.2.1) (Lm := V.2.2.1) ⟨by omega, upH_at _ _ _⟩
  have P1 := hP.fr f1 (by omega)
  repeat (refine R_s kC9 rfl rfl ?_)
  refine R_get kC9 rfl S1.2.1 rfl ?_
  repeat (refine R_s kC9 rfl rfl ?_)
  refine R_get kC9 rfl P1.2.1 rfl ?_
  obtain ⟨h2, ⟨f2, R2⟩, c2⟩ := cl_RO_copy d S1.2.2.2.1 P1.2.2.2.1 (by omega)
  refine R_cv kC9 rfl rfl rfl rfl S1.2.2.2.1.2.2.2.1 (by omega) c2 ?_
  have S2 := S1.pick f2 R2
  have P2 := P1.fr f2 (by omega)
  repeat (refine R_s kC9 rfl rfl ?_)
  refine R_get kC9 rfl S2.2.1 rfl ?_
  repeat (refine R_s kC9 rfl rfl ?_)
  refine R_get kC9 rfl P2.2.1 rfl ?_
  obtain ⟨h3, ⟨f3, R3⟩, c3⟩ := cl_RO_copy d S2.2.2.2.2.1 P2.2.2.2.2.1 (by omega)
  refine R_cv kC9 rfl rfl rfl rfl S2.2.2.2.2.1.2.2.2.1 (by omega) c3 ?_
  have S3 := S2.see f3 R3
  have P3 := P2.fr f3 (by omega)
  repeat (refine R_s kC9 rfl rfl ?_)
  refine R_get kC9 rfl S3.2.1 rfl ?_
  repeat (refine R_s kC9 rfl rfl ?_)
  refine R_get kC9 rfl P3.2.1 rfl ?_
  obtain ⟨h4, ⟨f4, R4⟩, c4⟩ := cl_RO_copy d S3.2.2.2.2.2.1 P3.2.2.2.2.2.1 (by omega)
  refine R_cv kC9 rfl rfl rfl rfl S3.2.2.2.2.2.1.2.2.2.1 (by omega) c4 ?_
  have S4 := S3.evt f4 R4
  have P4 := P3.fr f4 (by omega)
  repeat (refine R_s kC9 rfl rfl ?_)
  refine R_get kC9 rfl S4.2.1 rfl ?_
  repeat (refine R_s kC9 rfl rfl ?_)
  refine R_get kC9 rfl P4.2.1 rfl ?_
  obtain ⟨h5, ⟨f5, R5⟩, c5⟩ := cl_RO_copy d S4.2.2.2.2.2.2 P4.2.2.2.2.2.2 (by omega)
  refine R_cv kC9 rfl rfl rfl rfl S4.2.2.2.2.2.2.2.2.2.1 (by omega) c5 ?_
  have S5 := S4.bok f5 R5
  exact R_rv kC9 rfl ⟨rfl, ((((f1.mono (by omega) (by omega)).trans (f2.mono (by omega) (by omega))).trans (f3.mono (by omega) (by omega))).trans (f4.mono (by omega) (by omega))).trans (f5.mono (by omega) (by omega)), S5⟩
theorem lc_picked (d : Nat) (hS : SetC h o U) (h32 : ∀ t ∈ U.2.2.2.1, t < 32) : ∀ (m i : Nat), i + m = U.2.2.2.1.length → R (d + 1) 59 4 [some (.ref o), some (.int (chM (U.2.2.2.1.take i))), some (.int (nI i))] [] h (fun r2 h2 => r2 = some (.int (chM U.2.2.2.1)) ∧ h2 = h) := by
  have kC9 := co_SE_pickedNest
  have hR := hS.2.2.2.1
  have hl : (chR U.2.2.2.1).length = U.2.2.2.1.length := List.length_map ..
  have hl4 : U.2.2.2.1.length ≤ 4 := by have := hR.1; omega
  have ho := hR.2.2.2.1
  rw [hl] at ho
  intro m
  induction m with
  | zero =>
    intro i hi
    rw [List.take_of_length_le (by omega)]
    repeat (refine R_s kC9 rfl rfl ?_)
    refine R_get kC9 rfl (hS.2.1) rfl ?_
    refine R_get kC9 rfl (ho) rfl ?_
    refine R_ge kC9 rfl (rfl) (rfl) (by omega) (by omega) (fun hc => ?_) (fun hc => ?_)
    · repeat (refine R_s kC9 rfl rfl ?_)
      exact R_ri kC9 rfl ⟨rfl, rfl⟩
    · omega
  | succ m ih =>
    intro i hi
    obtain ⟨x, hx⟩ : ∃ x, U.2.2.2.1[i]? = some x := ⟨_, List.getElem?_eq_getElem (by omega)⟩
    have ih1 := ih (i + 1) (by omega)
    rw [List.take_succ, hx, Option.toList_some, ← chM_add (h32 x (List.mem_of_getElem? hx))] at ih1
    have hx2 : (chR U.2.2.2.1)[i]? = some (nI x, (0 : Int32)) := by rw [List.getElem?_map, hx]; rfl
    repeat (refine R_s kC9 rfl rfl ?_)
    refine R_get kC9 rfl (hS.2.1) rfl ?_
    refine R_get kC9 rfl (ho) rfl ?_
    refine R_ge kC9 rfl (rfl) (rfl) (by omega) (by omega) (fun hc => ?_) (fun hc => ?_)
    · omega
    · repeat (refine R_s kC9 rfl rfl ?_)
      refine R_get kC9 rfl (hS.2.1) rfl ?_
      repeat (refine R_s kC9 rfl rfl ?_)
      refine R_cv kC9 rfl rfl rfl rfl hR.2.2.2.1 hR.2.2.1 (cl_RO_firstAt d hR hx2) ?_
      repeat (refine R_s kC9 rfl rfl ?_)
      refine R_g kC9 rfl ?_
      refine (show R (d + 1) 59 4 [some (.ref o), some (.int (chM (U.2.2.2.1.take i) ||| (nI 1 <<< (nI x &&& 31)))), some (.int (nI i + nI 1))] [] h _ from ?_)
      rw [nI_add]
      exact ih1
theorem cl_SE_pickedNest (d : Nat) (hS : SetC h o U) (h32 : ∀ t ∈ U.2.2.2.1, t < 32) : Cl (d + 1) 59 [.ref o] h (some (.int (chM U.2.2.2.1))) h := by
  have kC9 := co_SE_pickedNest
  refine Cl_of kC9 rfl rfl ?_
  iterate 4 (refine R_s kC9 rfl rfl ?_)
  have key := lc_picked (h := h) d hS h32 _ 0 (Nat.zero_add _)
  rw [List.take_zero, chM_nil] at key
  exact key
end
def TexC (h : AH) (o : Nat) (tx : List Nat) : Prop := 3 ≤ o ∧ h.2 o = objA 7 [.int (nI tx.length), .ref (o + 1)] ∧ ∃ F, h.2 (o + 1) = bytesA 100 F ∧ TxR tx F
section
variable {h : AH} {o : Nat} {tx : List Nat}
theorem sp_TE_isFull (d : Nat) (hT : TexC h o tx) : Cl d 21 [.ref o] h (some (.int (b2i (decide (tx.length = 100))))) h := by
  have kC9 := co_TE_isFull
  refine Cl_of kC9 rfl rfl ?_
  obtain ⟨o3, ho, F, hF, hx⟩ := hT
  have := hx.1
  repeat (refine R_s kC9 rfl rfl ?_)
  refine R_get kC9 rfl (ho) rfl ?_
  repeat (refine R_s kC9 rfl rfl ?_)
  refine R_get kC9 rfl (ho) rfl ?_
  refine R_alen kC9 rfl hF (by omega) ?_
  refine R_lt kC9 rfl (rfl) (rfl) (by omega) (by omega) (fun hc => ?_) (fun hc => ?_)
  · repeat (refine R_s kC9 rfl rfl ?_)
    exact R_rz kC9 rfl (Or.inl rfl) ⟨ri_eq (b2i_f (decide_eq_false (by omega))), rfl⟩
  · repeat (refine R_s kC9 rfl rfl ?_)
    refine R_g kC9 rfl ?_
    exact R_rz kC9 rfl (Or.inr rfl) ⟨ri_eq (b2i_t (decide_eq_true (by omega))), rfl⟩
theorem nar_b : ∀ x, x < 128 → vp_nar .byte (nI x).toInt8.toInt32 = nI x := by decide +kernel
theorem cl_TE_put (d : Nat) (hT : TexC h o tx) {x : Nat} (hx : x < 128) (hl : tx.length < 100) : ∃ h', (frI o (o + 1) h h' ∧ TexC h' o (tx ++ [x])) ∧ Cl (d + 1) 22 [.ref o, .int (nI x)] h (some (.int (nI (tx.length + 1)))) h' := by
  have kC9 := co_TE_put
  refine Cl_eH kC9 rfl rfl ?_
  have hT0 := hT
  obtain ⟨o3, ho, F, hF, hxx⟩ := hT
  repeat (refine R_s kC9 rfl rfl ?_)
  refine R_cv kC9 rfl rfl rfl rfl ho o3 (sp_TE_isFull d hT0) ?_
  refine ZB_ne kC9 rfl (fun z => ?_) (fun _ => ?_)
  · have := of_decide_eq_true z
    omega
  · repeat (refine R_s kC9 rfl rfl ?_)
    refine R_get kC9 rfl (ho) rfl ?_
    repeat (refine R_s kC9 rfl rfl ?_)
    refine R_get kC9 rfl (ho) rfl ?_
    repeat (refine R_s kC9 rfl rfl ?_)
    refine R_bst kC9 rfl hF (by omega) (k := tx.length) rfl (by omega) (by omega) ?_
    rw [nar_b x hx]
    have ho1 : (upH h (o + 1) (bytesA 100 (upd F tx.length (nI x)))).2 o = objA 7 [.int (nI tx.length), .ref (o + 1)] := (upH_ne _ _ (by omega)).trans ho
    repeat (refine R_s kC9 rfl rfl ?_)
    refine R_get kC9 rfl (ho1) rfl ?_
    repeat (refine R_s kC9 rfl rfl ?_)
    refine R_put kC9 rfl ho1 o3 (Nat.le_of_ble_eq_true rfl) rfl ?_
    refine (show R (d + 1) 22 16 _ [] (upH (upH h (o + 1) (bytesA 100 (upd F tx.length (nI x)))) o (objA 7 [.int (nI tx.length + nI 1), .ref (o + 1)])) _ from ?_)
    rw [nI_add]
    repeat (refine R_s kC9 rfl rfl ?_)
    refine R_get kC9 rfl (upH_at _ _ _) rfl ?_
    refine R_ri kC9 rfl ⟨rfl, ((frI.refl _ _ _).up _ (by omega) (by omega)).up _ (by omega) (by omega), o3, by rw [upH_at, List.length_append]; rfl, upd F tx.length (nI x), by rw [upH_ne _ _ (by omega), upH_at], ?_, ?_, ?_⟩
    · rw [List.length_append]; simp; omega
    · intro y hy
      rcases List.mem_append.mp hy with z | z
      · exact hxx.2.1 y z
      · have : y = x := by simpa using z
        omega
    · intro i y hy
      rcases Nat.lt_or_ge i tx.length with z | z
      · rw [List.getElem?_append_left z] at hy
        rw [pk_un (by omega)]
        exact hxx.2.2 i y hy
      · have hlt := (List.getElem?_eq_some_iff.mp hy).1
        rw [List.length_append] at hlt
        have : i = tx.length := by simp at hlt; omega
        subst this
        rw [List.getElem?_append_right (Nat.le_refl _), Nat.sub_self] at hy
        have : x = y := by simpa using hy
        subst this
        rw [pk_us]
theorem cl_TE_empty (d : Nat) (hT : TexC h o tx) : ∃ h', (frI o (o + 1) h h' ∧ TexC h' o []) ∧ Cl d 23 [.ref o] h none h' := by
  have kC9 := co_TE_empty
  refine Cl_eH kC9 rfl rfl ?_
  obtain ⟨o3, ho, F, hF, hxx⟩ := hT
  repeat (refine R_s kC9 rfl rfl ?_)
  refine R_put kC9 rfl ho o3 (Nat.le_of_ble_eq_true rfl) rfl ?_
  exact R_rv kC9 rfl ⟨rfl, (frI.refl _ _ _).up _ (by omega) (by omega), o3, upH_at _ _ _, F, (upH_ne _ _ (by omega)).trans hF, by simp, fun x hx => (by cases hx), fun i x hx => (by simp at hx)⟩
theorem sp_TE_signAt (d : Nat) (hT : TexC h o tx) {i : Nat} (hi : i < 2 ^ 31) : Cl d 24 [.ref o, .int (nI i)] h (some (.int (hereF tx i))) h := by
  have kC9 := co_TE_signAt
  refine Cl_of kC9 rfl rfl ?_
  obtain ⟨o3, ho, F, hF, hx⟩ := hT
  have hl := hx.1
  repeat (refine R_s kC9 rfl rfl ?_)
  refine Z_lt kC9 rfl rfl (by omega) (fun z => by omega) (fun _ => ?_)
  repeat (refine R_s kC9 rfl rfl ?_)
  refine R_get kC9 rfl (ho) rfl ?_
  refine R_ge kC9 rfl (rfl) (rfl) (by omega) (by omega) (fun hc => ?_) (fun hc => ?_)
  · repeat (refine R_s kC9 rfl rfl ?_)
    refine R_ri kC9 rfl ⟨ri_eq ?_, rfl⟩
    unfold hereF
    rw [List.getElem?_eq_none hc]
  · repeat (refine R_s kC9 rfl rfl ?_)
    refine R_get kC9 rfl (ho) rfl ?_
    refine R_alen kC9 rfl hF (by omega) ?_
    refine R_ge kC9 rfl rfl rfl (by omega) (by omega) (fun z => by omega) (fun _ => ?_)
    repeat (refine R_s kC9 rfl rfl ?_)
    refine R_get kC9 rfl (ho) rfl ?_
    repeat (refine R_s kC9 rfl rfl ?_)
    refine R_bld kC9 rfl hF (by omega) (k := i) rfl (by omega) (by omega) ?_
    refine R_g kC9 rfl ?_
    refine R_ri kC9 rfl ⟨ri_eq ?_, rfl⟩
    have hg : tx[i]? = some tx[i] := List.getElem?_eq_getElem hc
    rw [hx.2.2 i _ hg]
    unfold hereF
    rw [hg]
theorem dg_lt {c : Int32} : isDg c = true ↔ ¬ c < nI 48 ∧ ¬ nI 57 < c := by
  unfold isDg
  rw [decide_eq_true_eq, tI_lt, tI_lt, show (nI 48).toInt = 48 by decide, show (nI 57).toInt = 57 by decide]
  omega
theorem sp_TE_digitAt (d : Nat) (hT : TexC h o tx) {i : Nat} (hi : i < 2 ^ 31) : Cl (d + 1) 25 [.ref o, .int (nI i)] h (some (.int (if isDg (hereF tx i) = true then nI (dgV tx i) else -1))) h := by
  have kC9 := co_TE_digitAt
  refine Cl_of kC9 rfl rfl ?_
  have hT0 := hT
  obtain ⟨o3, ho, F, hF, hx⟩ := hT
  repeat (refine R_s kC9 rfl rfl ?_)
  refine R_cv kC9 rfl rfl rfl rfl ho o3 (sp_TE_signAt d hT0 hi) ?_
  repeat (refine R_s kC9 rfl rfl ?_)
  refine Rr_lt kC9 rfl (fun hd => ?_) (fun hd => ?_)
  · repeat (refine R_s kC9 rfl rfl ?_)
    refine R_ri kC9 rfl ⟨ri_eq ?_, rfl⟩
    rw [if_neg (fun z => (dg_lt.mp z).1 hd)]
  · repeat (refine R_s kC9 rfl rfl ?_)
    refine Rr_gt kC9 rfl (fun he => ?_) (fun he => ?_)
    · repeat (refine R_s kC9 rfl rfl ?_)
      refine R_ri kC9 rfl ⟨ri_eq ?_, rfl⟩
      rw [if_neg (fun z => (dg_lt.mp z).2 he)]
    · repeat (refine R_s kC9 rfl rfl ?_)
      refine R_g kC9 rfl ?_
      have hg := dg_lt.mpr ⟨hd, he⟩
      refine R_ri kC9 rfl ⟨ri_eq ?_, rfl⟩
      rw [if_pos hg]
      exact (hereF_dg hx.2.1 hg).2.1
theorem most_sw : ∀ k, 99 ≤ k → k ≤ 116 → (([8, 6, 8, 8, 8, 8, 8, 8, 8, 2, 4, 8, 2, 8, 8, 8, 8, 6, 6] : List Nat)[k - 98]? = some 2 ∧ mostF (nI k) = 1) ∨ (([8, 6, 8, 8, 8, 8, 8, 8, 8, 2, 4, 8, 2, 8, 8, 8, 8, 6, 6] : List Nat)[k - 98]? = some 4 ∧ mostF (nI k) = 2) ∨ (([8, 6, 8, 8, 8, 8, 8, 8, 8, 2, 4, 8, 2, 8, 8, 8, 8, 6, 6] : List Nat)[k - 98]? = some 6 ∧ mostF (nI k) = 5) ∨ (([8, 6, 8, 8, 8, 8, 8, 8, 8, 2, 4, 8, 2, 8, 8, 8, 8, 6, 6] : List Nat)[k - 98]? = some 8 ∧ mostF (nI k) = 0) := by
  have : ∀ k, k ≤ 116 → 99 ≤ k → (([8, 6, 8, 8, 8, 8, 8, 8, 8, 2, 4, 8, 2, 8, 8, 8, 8, 6, 6] : List Nat)[k - 98]? = some 2 ∧ mostF (nI k) = 1) ∨ (([8, 6, 8, 8, 8, 8, 8, 8, 8, 2, 4, 8, 2, 8, 8, 8, 8, 6, 6] : List Nat)[k - 98]? = some 4 ∧ mostF (nI k) = 2) ∨ (([8, 6, 8, 8, 8, 8, 8, 8, 8, 2, 4, 8, 2, 8, 8, 8, 8, 6, 6] : List Nat)[k - 98]? = some 6 ∧ mostF (nI k) = 5) ∨ (([8, 6, 8, 8, 8, 8, 8, 8, 8, 2, 4, 8, 2, 8, 8, 8, 8, 6, 6] : List Nat)[k - 98]? = some 8 ∧ mostF (nI k) = 0) := by decide +kernel
  exact fun k a b => this k b a
theorem sp_TE_mostDigits (d : Nat) (c : Int32) : Cl d 27 [.int c] h (some (.int (nI (mostF c)))) h := by
  have kC9 := co_TE_mostDigits
  refine Cl_of kC9 rfl rfl ?_
  repeat (refine R_s kC9 rfl rfl ?_)
  by_cases q : c.toInt < 99 ∨ 116 < c.toInt
  · have e0 : mostF c = 0 := by
      unfold mostF
      have ne : ∀ k : Nat, 99 ≤ k → k ≤ 116 → c ≠ nI k := by
        intro k k1 k2 e
        rw [e, nI_toInt (by omega)] at q
        omega
      rw [if_neg (fun z => by rcases z with z | z <;> exact ne _ (by omega) (by omega) z), if_neg (ne 108 (by omega) (by omega)), if_neg (fun z => by rcases z with z | z | z <;> exact ne _ (by omega) (by omega) z)]
    refine R_sw kC9 rfl (t := 8) (by rw [if_pos q]; rfl) ?_
    repeat (refine R_s kC9 rfl rfl ?_)
    rw [e0]
    exact R_ri kC9 rfl ⟨rfl, rfl⟩
  · obtain ⟨k, k1, k2, k3, rfl⟩ := rng_nI (v := c) (a := 99) (b := 116) (by omega)
    have ek : ((nI k).toInt - 99).toNat + 1 = k - 98 := by rw [nI_toInt k3]; omega
    rcases most_sw k k1 k2 with ⟨z1, z2⟩ | ⟨z1, z2⟩ | ⟨z1, z2⟩ | ⟨z1, z2⟩
    · refine R_sw kC9 rfl (t := 2) (by rw [if_neg q, ek]; exact z1) ?_
      repeat (refine R_s kC9 rfl rfl ?_)
      rw [z2]
      exact R_ri kC9 rfl ⟨rfl, rfl⟩
    · refine R_sw kC9 rfl (t := 4) (by rw [if_neg q, ek]; exact z1) ?_
      repeat (refine R_s kC9 rfl rfl ?_)
      rw [z2]
      exact R_ri kC9 rfl ⟨rfl, rfl⟩
    · refine R_sw kC9 rfl (t := 6) (by rw [if_neg q, ek]; exact z1) ?_
      repeat (refine R_s kC9 rfl rfl ?_)
      rw [z2]
      exact R_ri kC9 rfl ⟨rfl, rfl⟩
    · refine R_sw kC9 rfl (t := 8) (by rw [if_neg q, ek]; exact z1) ?_
      repeat (refine R_s kC9 rfl rfl ?_)
      rw [z2]
      exact R_ri kC9 rfl ⟨rfl, rfl⟩
theorem lc_digits (d : Nat) (hT : TexC h o tx) {p most : Nat} (hp : p < 1000) (hm5 : most ≤ 5) : ∀ (m f : Nat), f + m = most → digN tx p most = f + digN tx (p + f) m → R (d + 2) 28 2 [some (.ref o), some (.int (nI p)), some (.int (nI most)), some (.int (nI f))] [] h (fun r2 h2 => r2 = some (.int (nI (digN tx p most))) ∧ h2 = h) := by
  have kC9 := co_TE_digitsFrom
  intro m
  induction m with
  | zero =>
    intro f hf he
    repeat (refine R_s kC9 rfl rfl ?_)
    refine R_ge kC9 rfl (rfl) (rfl) (by omega) (by omega) (fun hc => ?_) (fun hc => ?_)
    · repeat (refine R_s kC9 rfl rfl ?_)
      have : digN tx p most = most := by rw [he]; show f + 0 = _; omega
      rw [this]
      exact R_ri kC9 rfl ⟨rfl, rfl⟩
    · omega
  | succ m ih =>
    intro f hf he
    rw [digN_succ] at he
    repeat (refine R_s kC9 rfl rfl ?_)
    refine R_ge kC9 rfl (rfl) (rfl) (by omega) (by omega) (fun hc => ?_) (fun hc => ?_)
    · omega
    · repeat (refine R_s kC9 rfl rfl ?_)
      refine (show R (d + 2) 28 9 [some (.ref o), some (.int (nI p)), some (.int (nI most)), some (.int (nI f))] [.int (nI p + nI f), .ref o] h _ from ?_)
      rw [nI_add]
      refine R_cv kC9 rfl rfl rfl rfl hT.2.1 hT.1 (sp_TE_digitAt d hT (by omega)) ?_
      by_cases hd : isDg (hereF tx (p + f)) = true
      · rw [if_pos hd] at he ⊢
        have h9 : dgV tx (p + f) ≤ 9 := by
          obtain ⟨o3, ho, F, hF, hx⟩ := hT
          exact (hereF_dg hx.2.1 hd).2.2
        refine Z_ge kC9 rfl rfl (by omega) (fun _ => ?_) (fun z => by omega)
        repeat (refine R_s kC9 rfl rfl ?_)
        refine R_g kC9 rfl ?_
        refine (show R (d + 2) 28 2 [some (.ref o), some (.int (nI p)), some (.int (nI most)), some (.int (nI f + nI 1))] [] h _ from ?_)
        rw [nI_add]
        exact ih (f + 1) (by omega) (by rw [he, Nat.add_assoc p f 1]; omega)
      · rw [if_neg hd] at he ⊢
        refine Zr_ge kC9 rfl (fun z => absurd z (by decide)) (fun _ => ?_)
        repeat (refine R_s kC9 rfl rfl ?_)
        rw [he]
        exact R_ri kC9 rfl ⟨rfl, rfl⟩
theorem sp_TE_digitsFrom (d : Nat) (hT : TexC h o tx) {p most : Nat} (hp : p < 1000) (hm5 : most ≤ 5) : Cl (d + 2) 28 [.ref o, .int (nI p), .int (nI most)] h (some (.int (nI (digN tx p most)))) h := by
  have kC9 := co_TE_digitsFrom
  refine Cl_of kC9 rfl rfl ?_
  iterate 2 (refine R_s kC9 rfl rfl ?_)
  exact lc_digits d hT hp hm5 most 0 (by omega) (by rw [Nat.zero_add, Nat.add_zero])
theorem most2 (c : Int32) : mostF c = 2 ↔ c = nI 108 := by
  unfold mostF
  constructor
  · intro z
    split at z
    · cases z
    · split at z
      · rename_i e; exact e
      · split at z <;> cases z
  · rintro rfl; decide
theorem lc_fault (d : Nat) (hT : TexC h o tx) : ∀ (c p : Nat) (w3 w4 : Option Value), c < 12 → p ≤ tx.length → ((w3 = none ∧ w4 = none) ∨ ∃ x y : Int32, w3 = some (.int x) ∧ w4 = some (.int y)) → R (d + 3) 26 4 [some (.ref o), some (.int (nI p)), some (.int (nI (12 - c))), w3, w4] [] h (fun r2 h2 => r2 = some (.int (fltR (fltF tx (c + 1) p))) ∧ h2 = h) := by
  have kC9 := co_TE_fault
  have hl : tx.length ≤ 100 := by obtain ⟨o3, ho, F, hF, hx⟩ := hT; exact hx.1
  have hx128 : ∀ x ∈ tx, x < 128 := by obtain ⟨o3, ho, F, hF, hx⟩ := hT; exact hx.2.1
  have step : ∀ c, c < 12 → (c ≠ 0 → ∀ (p : Nat) (w3 w4 : Option Value), p ≤ tx.length → ((w3 = none ∧ w4 = none) ∨ ∃ x y : Int32, w3 = some (.int x) ∧ w4 = some (.int y)) → R (d + 3) 26 4 [some (.ref o), some (.int (nI p)), some (.int (nI (12 - c + 1))), w3, w4] [] h (fun r2 h2 => r2 = some (.int (fltR (fltF tx c p))) ∧ h2 = h)) → ∀ (p : Nat) (w3 w4 : Option Value), p ≤ tx.length → ((w3 = none ∧ w4 = none) ∨ ∃ x y : Int32, w3 = some (.int x) ∧ w4 = some (.int y)) → R (d + 3) 26 4 [some (.ref o), some (.int (nI p)), some (.int (nI (12 - c))), w3, w4] [] h (fun r2 h2 => r2 = some (.int (fltR (fltF tx (c + 1) p))) ∧ h2 = h) := by
    intro c hc ih p w3 w4 hp hw
    rw [fltF_succ]
    have hE := clE_le hx128 hp
    have hm5 := mostF_le (hereF tx p)
    have body : ∀ w4' : Option Value, (w4' = none ∨ ∃ x : Int32, w4' = some (.int x)) → R (d + 3) 26 12 [some (.ref o), some (.int (nI p)), some (.int (nI (12 - c))), some (.int (nI (mostF (hereF tx p)))), w4'] [] h (fun r2 h2 => r2 = some (.int (fltR (if clOk tx p = false then some (clE tx p) else if c ≠ 0 ∧ hereF tx (clE tx p) = nI 59 then fltF tx c (clE tx p + 1) else if clE tx p < tx.length then some (clE tx p) else none))) ∧ h2 = h) := by
      intro w4' hw4
      repeat (refine R_s kC9 rfl rfl ?_)
      refine Z_ne kC9 rfl rfl (by omega) (fun hm => ?_) (fun hm => ?_)
      · have eE : clE tx p = p + 1 + clG tx p := by unfold clE; rw [if_neg hm]
        have eG : clG tx p = digN tx (p + 1) (mostF (hereF tx p)) := by unfold clG; rw [if_neg hm]
        have rest : R (d + 3) 26 26 [some (.ref o), some (.int (nI (clE tx p))), some (.int (nI (12 - c))), some (.int (nI (mostF (hereF tx p)))), some (.int (nI (clG tx p)))] [] h (fun r2 h2 => r2 = some (.int (fltR (if clOk tx p = false then some (clE tx p) else if c ≠ 0 ∧ hereF tx (clE tx p) = nI 59 then fltF tx c (clE tx p + 1) else if clE tx p < tx.length then some (clE tx p) else none))) ∧ h2 = h) := by
          have good : clOk tx p = true → R (d + 3) 26 36 [some (.ref o), some (.int (nI (clE tx p))), some (.int (nI (12 - c))), some (.int (nI (mostF (hereF tx p)))), some (.int (nI (clG tx p)))] [] h (fun r2 h2 => r2 = some (.int (fltR (if clOk tx p = false then some (clE tx p) else if c ≠ 0 ∧ hereF tx (clE tx p) = nI 59 then fltF tx c (clE tx p + 1) else if clE tx p < tx.length then some (clE tx p) else none))) ∧ h2 = h) := by
            intro hok
            rw [if_neg (by rw [hok]; decide)]
            repeat (refine R_s kC9 rfl rfl ?_)
            refine R_get kC9 rfl (hT.2.1) rfl ?_
            refine R_ne kC9 rfl rfl rfl (by omega) (by omega) (fun hne => ?_) (fun heq => ?_)
            · repeat (refine R_s kC9 rfl rfl ?_)
              refine R_cv kC9 rfl rfl rfl rfl hT.2.1 hT.1 (sp_TE_signAt (d + 2) hT (by omega)) ?_
              repeat (refine R_s kC9 rfl rfl ?_)
              refine Rr_ne kC9 rfl (fun h59 => ?_) (fun h59 => ?_)
              · rw [if_neg (fun z => h59 z.2), if_pos (by omega)]
                repeat (refine R_s kC9 rfl rfl ?_)
                exact R_ri kC9 rfl ⟨rfl, rfl⟩
              · repeat (refine R_s kC9 rfl rfl ?_)
                refine R_ne kC9 rfl rfl rfl (by omega) (by omega) (fun h12 => ?_) (fun h12 => ?_)
                · rw [if_pos ⟨by omega, h59⟩]
                  repeat (refine R_s kC9 rfl rfl ?_)
                  refine R_g kC9 rfl ?_
                  refine (show R (d + 3) 26 4 [some (.ref o), some (.int (nI (clE tx p) + nI 1)), some (.int (nI (12 - c) + nI 1)), some (.int (nI (mostF (hereF tx p)))), some (.int (nI (clG tx p)))] [] h _ from ?_)
                  rw [nI_add, nI_add]
                  exact ih (by omega) (clE tx p + 1) _ _ (by omega) (Or.inr ⟨_, _, rfl, rfl⟩)
                · rw [if_neg (fun z => by omega), if_pos (by omega)]
                  repeat (refine R_s kC9 rfl rfl ?_)
                  exact R_ri kC9 rfl ⟨rfl, rfl⟩
            · have h59 : ¬ hereF tx (clE tx p) = nI 59 := by
                unfold hereF
                rw [List.getElem?_eq_none (by omega)]
                decide
              rw [if_neg (fun z => h59 z.2), if_neg (by omega)]
              repeat (refine R_s kC9 rfl rfl ?_)
              exact R_ri kC9 rfl ⟨rfl, rfl⟩
          have bad : clOk tx p = false → R (d + 3) 26 34 [some (.ref o), some (.int (nI (clE tx p))), some (.int (nI (12 - c))), some (.int (nI (mostF (hereF tx p)))), some (.int (nI (clG tx p)))] [] h (fun r2 h2 => r2 = some (.int (fltR (if clOk tx p = false then some (clE tx p) else if c ≠ 0 ∧ hereF tx (clE tx p) = nI 59 then fltF tx c (clE tx p + 1) else if clE tx p < tx.length then some (clE tx p) else none))) ∧ h2 = h) := by
            intro hok
            rw [if_pos hok]
            repeat (refine R_s kC9 rfl rfl ?_)
            exact R_ri kC9 rfl ⟨rfl, rfl⟩
          have hg5 : clG tx p ≤ 100 := by omega
          repeat (refine R_s kC9 rfl rfl ?_)
          refine Z_eq kC9 rfl rfl (by omega) (fun hg => ?_) (fun hg => ?_)
          · exact bad (by unfold clOk; rw [hg]; simp)
          · repeat (refine R_s kC9 rfl rfl ?_)
            refine R_ne kC9 rfl rfl rfl (by omega) (by omega) (fun h2 => ?_) (fun h2 => ?_)
            · refine good ?_
              have : ¬ hereF tx p = nI 108 := fun z => h2 ((most2 _).mpr z)
              unfold clOk
              rw [decide_eq_false hm, decide_eq_true (show 0 < clG tx p by omega), decide_eq_false this]; rfl
            · have h108 : hereF tx p = nI 108 := (most2 _).mp h2
              repeat (refine R_s kC9 rfl rfl ?_)
              refine R_ge kC9 rfl rfl rfl (by omega) (by omega) (fun h3 => ?_) (fun h3 => ?_)
              · refine good ?_
                have hle : clG tx p ≤ mostF (hereF tx p) := by rw [eG]; exact digN_le _ _ _
                unfold clOk
                rw [decide_eq_false hm, decide_eq_true (show 0 < clG tx p by omega), decide_eq_true (show clG tx p = 2 by omega)]
                simp
              · refine bad ?_
                unfold clOk
                rw [decide_eq_true h108, decide_eq_false (show ¬ clG tx p = 2 by omega)]
                simp
        iterate 3 (refine R_s kC9 rfl rfl ?_)
        refine (show R (d + 3) 26 19 [some (.ref o), some (.int (nI p + nI 1)), some (.int (nI (12 - c))), some (.int (nI (mostF (hereF tx p)))), w4'] [.int (nI p + nI 1), .ref o] h _ from ?_)
        rw [nI_add]
        iterate 1 (refine R_s kC9 rfl rfl ?_)
        refine R_cv kC9 rfl rfl rfl rfl hT.2.1 hT.1 (sp_TE_digitsFrom d hT (by omega) hm5) ?_
        rw [← eG]
        have tail : R (d + 3) 26 22 [some (.ref o), some (.int (nI (p + 1))), some (.int (nI (12 - c))), some (.int (nI (mostF (hereF tx p)))), some (.int (nI (clG tx p)))] [] h (fun r2 h2 => r2 = some (.int (fltR (if clOk tx p = false then some (clE tx p) else if c ≠ 0 ∧ hereF tx (clE tx p) = nI 59 then fltF tx c (clE tx p + 1) else if clE tx p < tx.length then some (clE tx p) else none))) ∧ h2 = h) := by
          iterate 4 (refine R_s kC9 rfl rfl ?_)
          refine (show R (d + 3) 26 26 [some (.ref o), some (.int (nI (p + 1) + nI (clG tx p))), some (.int (nI (12 - c))), some (.int (nI (mostF (hereF tx p)))), some (.int (nI (clG tx p)))] [] h _ from ?_)
          rw [nI_add, ← eE]
          exact rest
        rcases hw4 with rfl | ⟨x, rfl⟩
        · iterate 1 (refine R_s kC9 rfl rfl ?_)
          exact tail
        · iterate 1 (refine R_s kC9 rfl rfl ?_)
          exact tail
      · have hok : clOk tx p = false := by unfold clOk; rw [decide_eq_true hm]; rfl
        have eE : clE tx p = p := by unfold clE; rw [if_pos hm]
        rw [if_pos hok, eE]
        repeat (refine R_s kC9 rfl rfl ?_)
        exact R_ri kC9 rfl ⟨rfl, rfl⟩
    repeat (refine R_s kC9 rfl rfl ?_)
    refine R_gt kC9 rfl rfl rfl (by omega) (by omega) (fun z => by omega) (fun _ => ?_)
    repeat (refine R_s kC9 rfl rfl ?_)
    refine R_cv kC9 rfl rfl rfl rfl hT.2.1 hT.1 (sp_TE_signAt (d + 2) hT (by omega)) ?_
    refine R_cs kC9 rfl rfl rfl rfl (sp_TE_mostDigits (d + 2) _) ?_
    rcases hw with ⟨rfl, rfl⟩ | ⟨x, y, rfl, rfl⟩
    · iterate 1 (refine R_s kC9 rfl rfl ?_)
      exact body none (Or.inl rfl)
    · iterate 1 (refine R_s kC9 rfl rfl ?_)
      exact body _ (Or.inr ⟨_, rfl⟩)
  intro c
  induction c with
  | zero => exact fun p w3 w4 hc hp hw => step 0 hc (fun z => absurd rfl z) p w3 w4 hp hw
  | succ c ih =>
    intro p w3 w4 hc hp hw
    refine step (c + 1) hc (fun _ p' w3' w4' hp' hw' => ?_) p w3 w4 hp hw
    have := ih p' w3' w4' (by omega) hp' hw'
    rw [show 12 - (c + 1) + 1 = 12 - c by omega]
    exact this
theorem sp_TE_fault (d : Nat) (hT : TexC h o tx) : Cl (d + 3) 26 [.ref o] h (some (.int (fltR (fltF tx 12 0)))) h := by
  have kC9 := co_TE_fault
  refine Cl_of kC9 rfl rfl ?_
  iterate 4 (refine R_s kC9 rfl rfl ?_)
  exact lc_fault d hT 11 0 none none (by omega) (by omega) (Or.inl ⟨rfl, rfl⟩)
end
