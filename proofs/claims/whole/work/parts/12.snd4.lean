/-! 4: the steps that reach cells -/
section
variable {p : Program} {l : Launch} {e : Env} {R : Room} {s : State} {m : MethodId} {args : Array Value} {below : List Frame} {meth : Method} {c : Code} {H : Heap} {locs : List Loc} {cells slots : Nat} {Q : State → Prop} {B hv tn sb : Nat} {cA : FieldType → ClassId} {D : va_G}
abbrev AB (B : Nat) : Nat → Prop := fun q => B ≤ q
theorem sn_get {mi bp a b ix : Nat} {h : AH} {r : Nat} {fs : List Value} {v : Value} {rest : List Value} {L : Array Slot} (hx : p.tables.exec = Jvm.exec) (hb : c.code = byM mi) (hown : s.vm.findClass (yM mi).cls = some m.cls) (hts : ∀ w ∈ gtb, w.before args s = true) (hK : va_K D clT (tysL cA) s) (hR : HRel B hv tn sb cA D s h H) (hc : h.2 r = .inr (b, fs)) (h9 : b < 9) (ha : a < clS b) (hv2 : fs[a]? = some v) (hlink : (Cond.fieldLink (yM mi).cls ix (clN b) (clF b a).2.1 (clF b a).2.2.1).before args s = true) (hdcl : (clF b a).1 = clN b) (hd : decode (byM mi) bp = .ok (.getfield ix, 3))
    (kk : W p l e R s m args below meth c H locs cells slots Q (F0 m (bp + 3) L (vz (rho B hv tn sb) v :: rest))) : W p l e R s m args below meth c H locs cells slots Q (F0 m bp L (.ref (rho B hv tn sb r) :: rest)) := by
  obtain ⟨h3, hr, hat⟩ := hR.obj hc h9
  refine va_get (D := D) (ci := b) (cl := clT) (tys := tysL cA) (ws := [(rho B hv tn sb r, .inr (b, fs.map (vz (rho B hv tn sb))))]) hx hb hts (cl_ws h9) hown hK (fun k q hk => ?_) 0 rfl (cl_at h9) a ha hlink (fun x hx => by rw [← hdcl]; exact hx) (v := vz (rho B hv tn sb) v) ?_ hd kk
  · cases k with
    | zero => cases hk; exact hat
    | succ k => simp at hk
  · rw [List.getElem?_map, hv2]; rfl
theorem sn_put {mi bp a b ix : Nat} {h : AH} {r : Nat} {fs : List Value} {v : Value} {rest : List Value} {L : Array Slot} (hx : p.tables.exec = Jvm.exec) (hb : c.code = byM mi) (hown : s.vm.findClass (yM mi).cls = some m.cls) (hts : ∀ w ∈ gtb, w.before args s = true) (hK : va_K D clT (tysL cA) s) (hR : HRel B hv tn sb cA D s h H) (hS0 : va_S (AB B) s.heap H locs) (hc : h.2 r = .inr (b, fs)) (h9 : b < 9) (ha : a < clS b) (hl : a < fs.length) (hvo : okV (fty b a) v = true) (hlink : (Cond.fieldLink (yM mi).cls ix (clN b) (clF b a).2.1 (clF b a).2.2.1).before args s = true) (hdcl : (clF b a).1 = clN b) (hfin : (clF b a).2.2.2 = false ∨ ((yM mi).cls = clN b ∧ meth.name = "<init>")) (hd : decode (byM mi) bp = .ok (.putfield ix, 3))
    (kk : ∀ (H1 : Heap) (locs1 : List Loc), HRel B hv tn sb cA D s (upH h r (.inr (b, fs.set a v))) H1 → va_S (AB B) s.heap H1 locs1 → W p l e R s m args below meth c H1 locs1 cells slots Q (F0 m (bp + 3) L rest)) : W p l e R s m args below meth c H locs cells slots Q (F0 m bp L (vz (rho B hv tn sb) v :: .ref (rho B hv tn sb r) :: rest)) := by
  obtain ⟨h3, hr, hat⟩ := hR.obj hc h9
  have hcl := cl_at h9
  have hap := va_apart (own := (yM mi).cls) hts (cl_ws h9) (fty b) (cl_ty b h9) (cl_nm b h9) hK hcl
  obtain ⟨rc, h1, cell, q1, q2, q3, q4⟩ := hat
  have hrc : rc = (clN b, clF b, clS b) := Option.some.inj (h1.symm.trans hcl)
  subst hrc
  obtain ⟨hSl, hfc, kC, hkC, hkind⟩ := hK.1 b _ hcl
  obtain ⟨cf, kf, fi, f, hi, hsl⟩ := hSl a ha
  obtain ⟨hn, hfit⟩ := okV_ok (rho B hv tn sb) hvo
  have hA : AB B (rho B hv tn sb r) := by show B ≤ _; rw [rho3 h3]; omega
  have hlm : a < (fs.map (vz (rho B hv tn sb))).length := by rw [List.length_map]; exact hl
  have hi' : s.fieldFound? (clN b) (clF b a).2.1 (clF b a).2.2.1 = some (cf, kf, fi, f) := by
    have hi2 : s.fieldFound? (clF b a).1 (clF b a).2.1 (clF b a).2.2.1 = some (cf, kf, fi, f) := hi
    rw [hdcl] at hi2; exact hi2
  have fin : ∀ H' : Heap, H'[rho B hv tn sb r]? = some (cell.setSlot f.slot (vz (rho B hv tn sb) v)) → H'.size = H.size → (∀ q, q ≠ rho B hv tn sb r → H'[q]? = H[q]?) → W p l e R s m args below meth c H' (locs ++ [⟨rho B hv tn sb r, f.slot⟩]) cells slots Q (F0 m (bp + 3) L rest) := by
    intro H' e1 e2 e3
    refine kk H' _ (hR.up h3 hr ?_ e2 e3 (fun t n w hw => by cases hw)) (hS0.put e2 e3 hA)
    rw [hsl] at e1
    show va_at D clT (_, .inr (b, (fs.set a v).map (vz (rho B hv tn sb)))) H'
    rw [List.map_set]
    exact ⟨_, hcl, t_OB.to (V := updV (vp_V (fs.map (vz (rho B hv tn sb)))) a (vz (rho B hv tn sb) v)) ⟨_, e1, q2, q3, t_set q4 hap ha (vz (rho B hv tn sb) v)⟩ (fun j _ => vp_updV_set hlm (vz (rho B hv tn sb) v) j)⟩
  have hst := (u_facts hfc hkC (u_lays hts (cl_ws h9) ha) hi).1
  have hslot : f.slot < cell.slots.size := by rw [hsl]; exact k2_hasslot (q4 a ha)
  have hlay := hts _ (cl_ws h9 _ (u_in_lay ha))
  unfold u_lay at hlay
  cases hff : (clF b a).2.2.2 with
  | false =>
    rw [if_neg (by rw [hff]; decide)] at hlay
    have h6 := u_store hfc hkC hkind hlay hi (cl_ty b h9 a ha) hn hfit
    exact W.putK hx hb (f := f) ⟨hown, hlink, ⟨_, _, _, hi'⟩, hst⟩ (by rw [q2]; exact h6) q1 q3 hslot rfl rfl hd fin
  | true =>
    rw [if_pos hff] at hlay
    obtain ⟨hoc, hin2⟩ : (yM mi).cls = clN b ∧ meth.name = "<init>" := by
      rcases hfin with hq | hq
      · rw [hff] at hq; cases hq
      · exact hq
    have hcf : m.cls = cf := by
      obtain ⟨_, _, c', _, _, _, -, -, hf', -, -, -, hown2, -⟩ := Cond.laysFinal_spec hlay
      have e1 : c' = cf := by have := hi.symm.trans hf'; simp at this; exact this.1.symm
      rw [hdcl, ← hoc] at hown2
      rw [← e1]; exact Option.some.inj (hown.symm.trans hown2)
    have h6 := u_fits hfc hkC hkind (Or.inr hlay) hi (cl_ty b h9 a ha) hn hfit
    exact W.putFinK hx hb hown hlink hi' hst hcf hin2 (by rw [q2]; exact h6) q1 q3 hslot rfl rfl hd fin
theorem sn_aP {z : FieldType × vp_A} {h : AH} {r : Nat} (hR : HRel B hv tn sb cA D s h H) (hc : h.2 r = .inl z) (h3 : 3 ≤ r) : va_P D clT [(rho B hv tn sb r, cz (rho B hv tn sb) cA (.inl z))] H := by
  intro k q hk
  cases k with
  | zero => cases hk; exact (hR.arr hc h3).2
  | succ k => simp at hk
theorem sn_iald {mi bp : Nat} {h : AH} {r n : Nat} {f : Nat → Int32} {i : Int32} {rest : List Value} {L : Array Slot} (hx : p.tables.exec = Jvm.exec) (hb : c.code = byM mi) (hK : va_K D clT (tysL cA) s) (hR : HRel B hv tn sb cA D s h H) (hc : h.2 r = .inl (.int, n, .inl f)) (hi : inB i n = true) (hd : decode (byM mi) bp = .ok (.iaload, 1))
    (kk : W p l e R s m args below meth c H locs cells slots Q (F0 m (bp + 1) L (.int (f i.toNatClampNeg) :: rest))) : W p l e R s m args below meth c H locs cells slots Q (F0 m bp L (.int i :: .ref (rho B hv tn sb r) :: rest)) := by
  rcases Nat.lt_or_ge r 3 with h3 | h3
  · obtain ⟨n', f', e1, ⟨scr, x1, x2, x3, x4, x6, x5⟩, -⟩ := hR.2.2.2.2.1 r h3
    rw [hc] at e1
    cases e1
    have hin := inB_in hi
    have hlt : i.toNatClampNeg < n := Nat.not_le.mp fun q => hin (Or.inr q)
    exact W.iald (v := .int (f i.toNatClampNeg)) hx hb x1 x2 x3 (fun q => q.elim (fun z => hin (Or.inl z)) (fun z => absurd z (by omega))) (x5 _ hlt) rfl rfl hd kk
  · exact va_iald (D := D) (cl := clT) (tys := tysL cA) hx hb hK (sn_aP hR hc h3) 0 0 rfl rfl (inB_in hi) hd kk
theorem sn_alen {mi bp : Nat} {h : AH} {r n : Nat} {t : FieldType} {z} {rest : List Value} {L : Array Slot} (hx : p.tables.exec = Jvm.exec) (hb : c.code = byM mi) (hK : va_K D clT (tysL cA) s) (hR : HRel B hv tn sb cA D s h H) (hc : h.2 r = .inl (t, n, z)) (hd : decode (byM mi) bp = .ok (.arraylength, 1))
    (kk : W p l e R s m args below meth c H locs cells slots Q (F0 m (bp + 1) L (.int (nI n) :: rest))) : W p l e R s m args below meth c H locs cells slots Q (F0 m bp L (.ref (rho B hv tn sb r) :: rest)) := by
  rcases Nat.lt_or_ge r 3 with h3 | h3
  · obtain ⟨n', f', e1, ⟨scr, x1, x2, x3, x4, x6, x5⟩, -⟩ := hR.2.2.2.2.1 r h3
    rw [hc] at e1
    cases e1
    exact W.alen (n := nI n) hx hb x1 x2 x6 rfl rfl hd kk
  · have key : ∀ t0 : Nat, (tysL cA)[t0]? = some (cA t, t) → W p l e R s m args below meth c H locs cells slots Q (F0 m bp L (.ref (rho B hv tn sb r) :: rest)) := by
      intro t0 ht
      have hP := sn_aP hR hc h3
      rcases z with f | f | f | f | f
      · exact va_alen (D := D) (cl := clT) (tys := tysL cA) hx hb hK hP 0 t0 rfl ht (v := nI n) rfl hd kk
      · exact va_alen (D := D) (cl := clT) (tys := tysL cA) hx hb hK hP 0 t0 rfl ht (v := nI n) rfl hd kk
      · exact va_alen (D := D) (cl := clT) (tys := tysL cA) hx hb hK hP 0 t0 rfl ht (v := nI n) rfl hd kk
      · exact va_alen (D := D) (cl := clT) (tys := tysL cA) hx hb hK hP 0 t0 rfl ht (v := nI n) rfl hd kk
      · exact va_alen (D := D) (cl := clT) (tys := tysL cA) hx hb hK hP 0 t0 rfl ht (v := nI n) rfl hd kk
    rcases hR.2.2.2.2.2 r t n z hc with rfl | rfl | rfl | rfl
    · exact key 0 rfl
    · exact key 1 rfl
    · exact key 2 rfl
    · exact key 3 rfl
theorem sn_iast {mi bp : Nat} {h : AH} {r n : Nat} {f : Nat → Int32} {i x : Int32} {rest : List Value} {L : Array Slot} (hx : p.tables.exec = Jvm.exec) (hb : c.code = byM mi) (hK : va_K D clT (tysL cA) s) (hR : HRel B hv tn sb cA D s h H) (hS0 : va_S (AB B) s.heap H locs) (hc : h.2 r = .inl (.int, n, .inl f)) (hi : inB i n = true) (h3 : 3 ≤ r) (hd : decode (byM mi) bp = .ok (.iastore, 1))
    (kk : ∀ (H1 : Heap) (locs1 : List Loc), HRel B hv tn sb cA D s (upH h r (.inl (.int, n, .inl (upd f i.toNatClampNeg x)))) H1 → va_S (AB B) s.heap H1 locs1 → W p l e R s m args below meth c H1 locs1 cells slots Q (F0 m (bp + 1) L rest)) : W p l e R s m args below meth c H locs cells slots Q (F0 m bp L (.int x :: .int i :: .ref (rho B hv tn sb r) :: rest)) := by
  obtain ⟨hr, hat⟩ := hR.arr hc h3
  have hin := inB_in hi
  have hA : AB B (rho B hv tn sb r) := by show B ≤ _; rw [rho3 h3]; omega
  refine W.iast hx hb hat ((hK.2 0 _ rfl).1 n (fun j => .int (f j))) (fun q => by cases q) (by show ¬ (i < 0 ∨ (arrV _ _ _).slots.size ≤ _); rw [arrV_size]; exact hin) rfl rfl hd fun H1 e z oq => ?_
  refine kk H1 _ (hR.up h3 hr ?_ z oq (fun t n w hw => by cases hw; exact Or.inl rfl)) (hS0.put z oq hA)
  show H1[rho B hv tn sb r]? = some (vp_cell _ _)
  rw [e]
  dsimp only
  rw [vp_cell_i, vp_cell_i, arrV_store]
  congr 2
  funext q
  by_cases hq : q = i.toNatClampNeg
  · subst hq
    simp [updV, upd]
  · simp [updV, upd, hq]
theorem sn_bast {mi bp : Nat} {h : AH} {r n : Nat} {f : Nat → Int32} {i x : Int32} {rest : List Value} {L : Array Slot} (hx : p.tables.exec = Jvm.exec) (hb : c.code = byM mi) (hK : va_K D clT (tysL cA) s) (hR : HRel B hv tn sb cA D s h H) (hS0 : va_S (AB B) s.heap H locs) (hc : h.2 r = .inl (.byte, n, .inl f)) (hi : inB i n = true) (h3 : 3 ≤ r) (hd : decode (byM mi) bp = .ok (.bastore, 1))
    (kk : ∀ (H1 : Heap) (locs1 : List Loc), HRel B hv tn sb cA D s (upH h r (.inl (.byte, n, .inl (upd f i.toNatClampNeg (vp_nar .byte x))))) H1 → va_S (AB B) s.heap H1 locs1 → W p l e R s m args below meth c H1 locs1 cells slots Q (F0 m (bp + 1) L rest)) : W p l e R s m args below meth c H locs cells slots Q (F0 m bp L (.int x :: .int i :: .ref (rho B hv tn sb r) :: rest)) := by
  obtain ⟨hr, hat⟩ := hR.arr hc h3
  have hin := inB_in hi
  have hA : AB B (rho B hv tn sb r) := by show B ≤ _; rw [rho3 h3]; omega
  refine W.bast hx hb hat ((hK.2 2 _ rfl).1 n (fun j => .int (f j))) (fun q => by cases q) (by show ¬ (i < 0 ∨ (arrV _ _ _).slots.size ≤ _); rw [arrV_size]; exact hin) rfl rfl hd fun H1 e z oq => ?_
  refine kk H1 _ (hR.up h3 hr ?_ z oq (fun t n w hw => by cases hw; exact Or.inr (Or.inr (Or.inl rfl)))) (hS0.put z oq hA)
  show H1[rho B hv tn sb r]? = some (vp_cell _ _)
  rw [e]
  dsimp only
  rw [vp_cell_i, vp_cell_i, arrV_store]
  congr 2
  funext q
  by_cases hq : q = i.toNatClampNeg
  · subst hq
    simp [updV, upd, vp_nar, narrow]
  · simp [updV, upd, hq]
theorem sn_last {mi bp : Nat} {h : AH} {r n : Nat} {f : Nat → Int64} {i : Int32} {x : Int64} {rest : List Value} {L : Array Slot} (hx : p.tables.exec = Jvm.exec) (hb : c.code = byM mi) (hK : va_K D clT (tysL cA) s) (hR : HRel B hv tn sb cA D s h H) (hS0 : va_S (AB B) s.heap H locs) (hc : h.2 r = .inl (.long, n, .inr (.inl f))) (hi : inB i n = true) (h3 : 3 ≤ r) (hd : decode (byM mi) bp = .ok (.lastore, 1))
    (kk : ∀ (H1 : Heap) (locs1 : List Loc), HRel B hv tn sb cA D s (upH h r (.inl (.long, n, .inr (.inl (vp_updL f i.toNatClampNeg x))))) H1 → va_S (AB B) s.heap H1 locs1 → W p l e R s m args below meth c H1 locs1 cells slots Q (F0 m (bp + 1) L rest)) : W p l e R s m args below meth c H locs cells slots Q (F0 m bp L (.long x :: .int i :: .ref (rho B hv tn sb r) :: rest)) := by
  obtain ⟨hr, hat⟩ := hR.arr hc h3
  have hin := inB_in hi
  have hA : AB B (rho B hv tn sb r) := by show B ≤ _; rw [rho3 h3]; omega
  refine W.last hx hb hat ((hK.2 1 _ rfl).1 n (fun j => .long (f j))) (fun q => by cases q) (by show ¬ (i < 0 ∨ (arrV _ _ _).slots.size ≤ _); rw [arrV_size]; exact hin) rfl rfl hd fun H1 e z oq => ?_
  refine kk H1 _ (hR.up h3 hr ?_ z oq (fun t n w hw => by cases hw; exact Or.inr (Or.inl rfl))) (hS0.put z oq hA)
  show H1[rho B hv tn sb r]? = some (vp_cell _ _)
  rw [e]
  dsimp only
  rw [vp_cell_l, vp_cell_l, arrV_store]
  congr 2
  funext q
  by_cases hq : q = i.toNatClampNeg
  · subst hq
    simp [updV, vp_updL]
  · simp [updV, vp_updL, hq]
theorem sn_aast {mi bp : Nat} {h : AH} {r n v : Nat} {fs : List Value} {f : Nat → Option Nat} {i : Int32} {rest : List Value} {L : Array Slot} (hx : p.tables.exec = Jvm.exec) (hb : c.code = byM mi) (hK : va_K D clT (tysL cA) s) (hR : HRel B hv tn sb cA D s h H) (hS0 : va_S (AB B) s.heap H locs) (hc : h.2 r = .inl (tpT, n, .inr (.inr (.inr (.inr f))))) (hcv : h.2 v = .inr (6, fs)) (hi : inB i n = true) (h3 : 3 ≤ r) (hd : decode (byM mi) bp = .ok (.aastore, 1))
    (kk : ∀ (H1 : Heap) (locs1 : List Loc), HRel B hv tn sb cA D s (upH h r (.inl (tpT, n, .inr (.inr (.inr (.inr (va_up f i.toNatClampNeg (some v)))))))) H1 → va_S (AB B) s.heap H1 locs1 → W p l e R s m args below meth c H1 locs1 cells slots Q (F0 m (bp + 1) L rest)) : W p l e R s m args below meth c H locs cells slots Q (F0 m bp L (.ref (rho B hv tn sb v) :: .int i :: .ref (rho B hv tn sb r) :: rest)) := by
  obtain ⟨hr, hat⟩ := hR.arr hc h3
  obtain ⟨-, -, hatv⟩ := hR.obj hcv (by omega)
  have hin := inB_in hi
  have hA : AB B (rho B hv tn sb r) := by show B ≤ _; rw [rho3 h3]; omega
  have hlt : i.toNatClampNeg < n := Nat.not_le.mp fun q => hin (Or.inr q)
  have h0 : ¬ i < 0 := fun q => hin (Or.inl q)
  obtain ⟨r', hr', cellV, g1, g2, g3, -⟩ := hatv
  have hcls := (hK.1 6 _ (cl_at (by omega : 6 < 9))).2
  obtain ⟨kA, comp, k1, k2, k3, -⟩ := (hK.2 3 _ rfl).2
  have hcomp : comp = D.1 6 := Option.some.inj (k3.symm.trans hcls.1)
  subst hcomp
  obtain ⟨kC, hkC, -⟩ := hcls.2
  refine W.aast hx hb hat (fun q h => by cases h) (fun h => by cases h) k1 k2 rfl hkC ⟨h0, by show _ < (arrV _ _ _).slots.size; rw [arrV_size]; exact hlt⟩ g1 (fun q h => by rw [g3] at h; cases h) (by rw [g2]; exact hkC) (by rw [g2]; exact va_assign hcls) rfl rfl hd fun H1 e z oq => ?_
  refine kk H1 _ (hR.up h3 hr ?_ z oq (fun t n w hw => by cases hw; exact Or.inr (Or.inr (Or.inr rfl)))) (hS0.put z oq hA)
  show H1[rho B hv tn sb r]? = some (vp_cell _ _)
  rw [e]
  dsimp only
  rw [vp_cell_q, vp_cell_q, arrV_store]
  congr 2
  funext q
  by_cases hq : q = i.toNatClampNeg
  · subst hq
    simp [updV, va_up, va_rf]
  · simp [updV, va_up, hq]
theorem sn_new {mi bp a ix : Nat} {h : AH} {rest : List Value} {L : Array Slot} (hx : p.tables.exec = Jvm.exec) (hb : c.code = byM mi) (hown : s.vm.findClass (yM mi).cls = some m.cls) (hts : ∀ w ∈ gtb, w.before args s = true) (hK : va_K D clT (tysL cA) s) (hR : HRel B hv tn sb cA D s h H) (hS0 : va_S (AB B) s.heap H locs) (h9 : a < 9) (hlink : (Cond.classLink (yM mi).cls ix (clN a)).before args s = true) (hd : decode (byM mi) bp = .ok (.new ix, 3)) (hc : cells + 1 ≤ R.cells) (hs : slots + (dvl a).length ≤ R.slots)
    (kk : ∀ (H1 : Heap), HRel B hv tn sb cA D s (alH h (.inr (a, dvl a))) H1 → va_S (AB B) s.heap H1 locs → W p l e R s m args below meth c H1 locs (cells + 1) (slots + (dvl a).length) Q (F0 m (bp + 3) L (.ref (rho B hv tn sb h.1.1) :: rest))) : W p l e R s m args below meth c H locs cells slots Q (F0 m bp L rest) := by
  have hKn := hK.1 a _ (cl_at h9)
  rw [cl_dvn a h9] at hs kk
  refine W.newcK hx hb hown hlink (hts _ (wAt_mem (cl_ins a h9))) (hts _ (wAt_mem (cl_ini a h9))) rfl hd hc hs hKn.2.1 rfl fun H1 kC hkC e1 z1 o1 => ?_
  obtain ⟨hR1, hn⟩ := hR.al (c := .inr (a, dvl a)) (H1 := H1) (by
    show va_at D clT (H.size, .inr (a, (dvl a).map (vz (rho B hv tn sb)))) H1
    rw [dvl_vz _ h9]
    exact ⟨_, cl_at h9, (u_born (fty a) hts (cl_ws h9) hKn hkC e1 (cl_ty a h9)).to (cl_dv a h9)⟩) z1 o1 (fun t n w hw => by cases hw)
  have hS1 : va_S (AB B) s.heap H1 locs := ⟨Nat.le_trans hS0.1 (by omega), fun x h1 h2 => (o1 x (Nat.lt_of_lt_of_le h1 hS0.1)).trans (hS0.2.1 x h1 h2), hS0.2.2⟩
  have kk := kk H1 hR1 hS1
  rw [hn] at kk
  exact kk
theorem sn_newa {mi bp : Nat} {h : AH} {rest : List Value} {L : Array Slot} {at_ : ArrayType} {ty : FieldType} {z : vp_A} {n : Int32} {t0 : Nat} (hx : p.tables.exec = Jvm.exec) (hb : c.code = byM mi) (hK : va_K D clT (tysL cA) s) (hR : HRel B hv tn sb cA D s h H) (hS0 : va_S (AB B) s.heap H locs) (hat : newarray.typeOf at_ = ty) (harr : (Cond.arrayClass ty).before args s = true) (ht : (tysL cA)[t0]? = some (cA ty, ty)) (hnm : s.vm.findClass ("[" ++ ty.toString) = some (cA ty)) (hz : ∀ k, vp_cell k z = arrV k n.toNatClampNeg (fun _ => defaultValue ty)) (hzn : z.1 = n.toNatClampNeg) (hcz : cz (rho B hv tn sb) cA (.inl (ty, z)) = .inl (cA ty, z)) (hi : inB n 100000 = true) (hby : componentBytes ty ≤ 8) (htt : ty = .int ∨ ty = .long ∨ ty = .byte ∨ ty = tpT) (hd : decode (byM mi) bp = .ok (.newarray at_, 2)) (hc : cells + 1 ≤ R.cells) (hs : slots + n.toNatClampNeg ≤ R.slots)
    (kk : ∀ (H1 : Heap), HRel B hv tn sb cA D s (alH h (.inl (ty, z))) H1 → va_S (AB B) s.heap H1 locs → W p l e R s m args below meth c H1 locs (cells + 1) (slots + n.toNatClampNeg) Q (F0 m (bp + 2) L (.ref (rho B hv tn sb h.1.1) :: rest))) : W p l e R s m args below meth c H locs cells slots Q (F0 m bp L (.int n :: rest)) := by
  subst hat
  have hin := inB_in hi
  have hlt : n.toNatClampNeg < 100000 := Nat.not_le.mp fun q => hin (Or.inr q)
  have h0 : ¬ n < 0 := fun q => hin (Or.inl q)
  have hby2 : n.toNatClampNeg * componentBytes (newarray.typeOf at_) ≤ 536870912 := Nat.le_trans (Nat.mul_le_mul (Nat.le_of_lt hlt) hby) (by omega)
  refine va_newaK hx hb harr rfl hd rfl h0 rfl hby2 hc hs rfl fun H1 cB e1 z1 o1 hAr hNm => ?_
  have hcB : cB = cA (newarray.typeOf at_) := Option.some.inj (hNm.symm.trans hnm)
  subst hcB
  obtain ⟨hR1, hn⟩ := hR.al (c := .inl (newarray.typeOf at_, z)) (H1 := H1) (by
    rw [hcz]
    show H1[H.size]? = some (vp_cell _ _)
    rw [hz]
    exact e1) z1 o1 (fun t n w hw => by cases hw; exact htt)
  have hS1 : va_S (AB B) s.heap H1 locs := ⟨Nat.le_trans hS0.1 (by omega), fun x h1 h2 => (o1 x (Nat.lt_of_lt_of_le h1 hS0.1)).trans (hS0.2.1 x h1 h2), hS0.2.2⟩
  have kk := kk H1 hR1 hS1
  rw [hn] at kk
  exact kk
theorem sn_anew {mi bp ix : Nat} {h : AH} {rest : List Value} {L : Array Slot} {n : Int32} (hx : p.tables.exec = Jvm.exec) (hb : c.code = byM mi) (hown : s.vm.findClass (yM mi).cls = some m.cls) (hK : va_K D clT (tysL cA) s) (hAO : va_AO "NestedBodies$Tape" s) (hR : HRel B hv tn sb cA D s h H) (hS0 : va_S (AB B) s.heap H locs) (hlink : (Cond.classLink (yM mi).cls ix "NestedBodies$Tape").before args s = true) (hi : inB n 100000 = true) (hd : decode (byM mi) bp = .ok (.anewarray ix, 3)) (hc : cells + 1 ≤ R.cells) (hs : slots + n.toNatClampNeg ≤ R.slots)
    (kk : ∀ (H1 : Heap), HRel B hv tn sb cA D s (alH h (.inl (tpT, n.toNatClampNeg, .inr (.inr (.inr (.inr (fun _ => none))))))) H1 → va_S (AB B) s.heap H1 locs → W p l e R s m args below meth c H1 locs (cells + 1) (slots + n.toNatClampNeg) Q (F0 m (bp + 3) L (.ref (rho B hv tn sb h.1.1) :: rest))) : W p l e R s m args below meth c H locs cells slots Q (F0 m bp L (.int n :: rest)) := by
  have hin := inB_in hi
  have hlt : n.toNatClampNeg < 100000 := Nat.not_le.mp fun q => hin (Or.inr q)
  have h0 : ¬ n < 0 := fun q => hin (Or.inl q)
  refine W.anew hx hb hown hlink hAO.use rfl hd rfl h0 (by omega) hc hs fun cB kA comp h1 h2 h3 h4 => ?_
  obtain ⟨kA', comp', k1, k2, k3, k4⟩ := (hK.2 3 _ rfl).2
  have hcB : cB = cA tpT := Option.some.inj (h1.symm.trans k4)
  subst hcB
  obtain ⟨hR1, hn⟩ := hR.al (c := .inl (tpT, n.toNatClampNeg, .inr (.inr (.inr (.inr (fun _ => none)))))) (H1 := H.push { cls := cA tpT, slots := Array.replicate n.toNatClampNeg .null, vm := .none }) (by
    show (H.push _)[H.size]? = some (vp_cell _ _)
    dsimp only
    rw [vp_cell_q, arrV_new]
    simp [va_rf]) (by simp) (fun q hq => by rw [Array.getElem?_push, if_neg (Nat.ne_of_lt hq)]) (fun t n w hw => by cases hw; exact Or.inr (Or.inr (Or.inr rfl)))
  have hS1 : va_S (AB B) s.heap (H.push { cls := cA tpT, slots := Array.replicate n.toNatClampNeg .null, vm := .none }) locs := ⟨Nat.le_trans hS0.1 (by simp), fun x h1 h2 => by
    have hx : x < H.size := Nat.lt_of_lt_of_le h1 hS0.1
    rw [Array.getElem?_push, if_neg (Nat.ne_of_lt hx)]
    exact hS0.2.1 x h1 h2, hS0.2.2⟩
  have kk := kk _ hR1 hS1
  rw [hn] at kk
  exact kk
end
