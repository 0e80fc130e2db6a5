/-! 9: what the small machine says holds of the machine -/
theorem gtb_list {ws : List Cond} (h : ∀ w ∈ ws, w ∈ gtb) : GoodIn gtb ws := fun w hw => gtb_self w (h w hw)
theorem wsM_in {k : Nat} (h : ckY k = true) : ∀ w ∈ wsM k, w ∈ gtb := by
  intro w hw
  unfold ckY at h
  simp only [Bool.and_eq_true] at h
  rcases List.mem_cons.mp hw with rfl | hw
  · exact wAt_mem h.1.1.1.1.1.1
  · exact hw
theorem ckY_ini {k : Nat} (h : ckY k = true) : Cond.initialized (yM k).cls ∈ gtb := by
  unfold ckY at h
  simp only [Bool.and_eq_true, List.any_eq_true] at h
  obtain ⟨i, -, hi⟩ := h.2
  exact wAt_mem hi
theorem ckY_cls {k : Nat} (h : ckY k = true) : (yM k).cls ≠ "java/lang/invoke/MethodHandle" ∧ (yM k).cls ≠ "java/lang/invoke/VarHandle" := by
  unfold ckY at h
  simp only [Bool.and_eq_true, decide_eq_true_eq] at h
  exact ⟨h.1.1.2, h.1.2⟩
theorem ckY_max {k : Nat} (h : ckY k = true) : (mt k).2.1 ≤ 20 := by
  unfold ckY at h
  simp only [Bool.and_eq_true, decide_eq_true_eq] at h
  exact h.1.1.1.1.2
theorem ckY_bpc {k : Nat} (h : ckY k = true) : bpc k 0 = some 0 := by
  unfold ckY at h
  simp only [Bool.and_eq_true, decide_eq_true_eq] at h
  exact h.1.1.1.2
theorem ckY_plain {k : Nat} (h : ckY k = true) : Jvm.plainName (yM k).cls = true := by
  unfold ckY at h
  simp only [Bool.and_eq_true] at h
  exact h.1.1.1.1.1.2
/-- what is to be shown of a place in a method -/
def SndW (l : Launch) (B hv tn sb : Nat) (cA : FieldType → ClassId) (D : va_G) (d mi i : Nat) (ls : ALs) (st : List Value) (h : AH) (r : Option Value) (h' : AH) : Prop :=
  ∀ (p : Program) (e : Env) (R : Room) (s : State) (m : MethodId) (args : Array Value) (below : List Frame) (meth : Method) (c : Code) (H : Heap) (locs : List Loc) (cells slots mc ms bp : Nat) (L : Array Slot),
    p.tables.exec = Jvm.exec → c.code = byM mi → meth.sig.returnType = (mt mi).2.2 → c.maxLocals = (mt mi).2.1 → s.vm.findClass (yM mi).cls = some m.cls → (∀ w ∈ gtb, w.before args s = true) → KK B hv tn cA D s → ((yM mi).name = "<init>" → meth.name = "<init>") → meth.locks = false → d + 1 ≤ R.frames → 100 * (d + 1) ≤ R.locals → mc ≤ R.cells → ms ≤ R.slots → bpc mi i = some bp → lvR (rho B hv tn sb) (mt mi).2.1 ls L → HRel B hv tn sb cA D s h H → va_S (AB B) s.heap H locs → cells + (h'.1.1 - h.1.1) = mc → slots + (h'.1.2 - h.1.2) = ms →
      W p l e R s m args below meth c H locs cells slots (MQ below (PostM B hv tn sb cA D r h') args s mc ms (AB B)) (F0 m bp L (st.map (vz (rho B hv tn sb))))
theorem snd_met {l : Launch} {B hv tn sb : Nat} {cA : FieldType → ClassId} {D : va_G} {d k : Nat} {av : List Value} {h : AH} {r1 : Option Value} {h1 : AH} (cy : ckY k = true) (hle : (av.flatMap slA).length ≤ (mt k).2.1) (hs : SndW l B hv tn sb cA D d k 0 (enL av (mt k).2.1) [] h r1 h1) :
    Met l (yM k) (wsM k) (rmM d (h1.1.1 - h.1.1) (h1.1.2 - h.1.2)) (PreM B hv tn sb cA D av h) (PostM B hv tn sb cA D r1 h1) (h1.1.1 - h.1.1) (h1.1.2 - h.1.2) (AB B) := by
  refine Met.ofW (cc := byM k) (maxL := (mt k).2.1) (ret := (mt k).2.2) (ckY_plain cy) rfl ?_
  intro p e s m args below meth c s₁ Bd hml hv
  obtain ⟨rfl, hR, hkk⟩ := hv
  have hts := atoms_spec (ws := wsM k) Bd.pre
  rw [lg_entry_eq]
  exact hs p e _ s m _ below meth c s.heap [] 0 0 _ _ 0 _ Bd.exec Bd.bytes Bd.returns hml (findClass_of_methodNamed Bd.named) (fun w hw => hts w (List.mem_cons_of_mem _ hw)) hkk (fun hn => by rw [(name_of_methodNamed Bd.named Bd.method).1]; exact hn) Bd.notSynchronized (Nat.le_refl _) (Nat.le_refl _) (Nat.le_refl _) (Nat.le_refl _) (ckY_bpc cy) (lvR_entry _ av _ hle) hR va_S.rf (Nat.zero_add _) (Nat.zero_add _)
