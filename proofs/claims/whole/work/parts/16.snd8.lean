/-! 8: the whole of it -/
theorem stepH_grow {ins : Instr} {a b : Nat} {st st' : List Value} {h h' : AH} (hst : stepH fty dvl ins a b st h = some (st', h')) : h.1.1 ≤ h'.1.1 ∧ h.1.2 ≤ h'.1.2 := by
  have hal : ∀ c, h.1.1 ≤ (alH h c).1.1 ∧ h.1.2 ≤ (alH h c).1.2 := fun c => ⟨by show h.1.1 ≤ h.1.1 + 1; omega, by show h.1.2 ≤ h.1.2 + szA c; omega⟩
  have hup : ∀ r c, h.1.1 ≤ (upH h r c).1.1 ∧ h.1.2 ≤ (upH h r c).1.2 := fun r c => ⟨Nat.le_refl _, Nat.le_refl _⟩
  unfold stepH at hst
  split at hst
  all_goals repeat' (first | (cases hst; done) | (split at hst) | (cases hst; first | exact ⟨Nat.le_refl _, Nat.le_refl _⟩ | exact hal _ | exact hup _ _))
theorem nx_grow {ret : Option FieldType} {e : EI} {ls ls' : ALs} {st st' : List Value} {h h' : AH} {i' : Nat} (hx : nx fty dvl ret e ls st h = some (.inl (i', ls', st', h'))) : h.1.1 ≤ h'.1.1 ∧ h.1.2 ≤ h'.1.2 := by
  obtain ⟨bp, ins, x, y, j, a, b, ts⟩ := e
  unfold nx at hx
  dsimp only at hx
  split at hx
  · cases hx; exact ⟨Nat.le_refl _, Nat.le_refl _⟩
  · split at hx
    · cases hx; exact ⟨Nat.le_refl _, Nat.le_refl _⟩
    · split at hx
      · rename_i hh
        cases hx
        exact stepH_grow hh
      · split at hx
        · cases hx
        · split at hx
          · cases hx
          · split at hx
            · cases hx; exact ⟨Nat.le_refl _, Nat.le_refl _⟩
            · split at hx
              · cases hx; exact ⟨Nat.le_refl _, Nat.le_refl _⟩
              · split at hx
                · cases hx; exact ⟨Nat.le_refl _, Nat.le_refl _⟩
                · split at hx
                  · rename_i hy
                    cases hx
                    unfold stepY at hy
                    repeat' (first | (cases hy; done) | (split at hy) | (cases hy; exact ⟨Nat.le_refl _, Nat.le_refl _⟩))
                  · cases hx
theorem run_grow : ∀ (n d mi i : Nat) (ls : ALs) (st : List Value) (h : AH) (r : Option Value) (h' : AH), run fty dvl mt n d mi i ls st h = some (r, h') → h.1.1 ≤ h'.1.1 ∧ h.1.2 ≤ h'.1.2 := by
  intro n
  induction n with
  | zero => intro d mi i ls st h r h' hr; cases hr
  | succ n ih =>
    intro d mi i ls st h r h' hr
    unfold run at hr
    cases he : (mt mi).1[i]? with
    | none => rw [he] at hr; cases hr
    | some e =>
      rw [he] at hr
      dsimp only at hr
      cases hx : nx fty dvl (mt mi).2.2 e ls st h with
      | none => rw [hx] at hr; cases hr
      | some q =>
        rw [hx] at hr
        rcases q with ⟨i', ls', st', h1⟩ | ⟨j, k, av, st'⟩ | r1
        · have g1 := nx_grow hx
          have g2 := ih _ _ _ _ _ _ _ _ hr
          exact ⟨Nat.le_trans g1.1 g2.1, Nat.le_trans g1.2 g2.2⟩
        · dsimp only at hr
          cases d with
          | zero => cases hr
          | succ d =>
            dsimp only at hr
            by_cases hle : (av.flatMap slA).length ≤ (mt k).2.1
            · rw [if_pos hle] at hr
              cases hc : run fty dvl mt n d k 0 (enL av (mt k).2.1) [] h with
              | none => rw [hc] at hr; cases hr
              | some q =>
                rw [hc] at hr
                obtain ⟨r1, h1⟩ := q
                have g1 := ih _ _ _ _ _ _ _ _ hc
                have g2 := ih _ _ _ _ _ _ _ _ hr
                exact ⟨Nat.le_trans g1.1 g2.1, Nat.le_trans g1.2 g2.2⟩
            · rw [if_neg hle] at hr
              cases hr
        · cases hr
          exact ⟨Nat.le_refl _, Nat.le_refl _⟩
section
variable {p : Program} {l : Launch} {e : Env} {R : Room} {s : State} {m : MethodId} {args : Array Value} {below : List Frame} {meth : Method} {c : Code} {H : Heap} {locs : List Loc} {cells slots : Nat} {Q : State → Prop} {B hv tn sb : Nat} {cA : FieldType → ClassId} {D : va_G}
set_option maxHeartbeats 4000000 in
theorem snR {mi bp j a b : Nat} {ins : Instr} {x : Int32} {y : Int64} {ts hs : List Nat} {st : List Value} {h : AH} {L : Array Slot} {r : Option Value} {ret : Option FieldType} (hx : p.tables.exec = Jvm.exec) (hb : c.code = byM mi) (hr : meth.sig.returnType = ret) (hlocks : meth.locks = false) (hR : HRel B hv tn sb cA D s h H) (hS0 : va_S (AB B) s.heap H locs) (ck : ckE mi (bp, ins, x, y, j, a, b, ts) hs = true) (hst : stepR ret ins st = some r) : W p l e R s m args below meth c H locs cells slots (MQ below (PostM B hv tn sb cA D r h) args s cells slots (AB B)) (F0 m bp L (st.map (vz (rho B hv tn sb)))) := by
  obtain ⟨n, hd, hI⟩ := ckE_dec ck
  have hq : ∀ (r : Option Value) (t : State), t.heap = H → s.WarmedH t.vm → PostM B hv tn sb cA D r h args s (.returned (r.map (vz (rho B hv tn sb)))) t := fun r t ht hW => ⟨rfl, by rw [ht]; exact hR.moved hW.alike, hS0.F ht⟩
  unfold stepR at hst
  unfold ckI at hI
  split at hst
  case h_1 =>
    dsimp only at hI
    rw [decide_eq_true_eq] at hI
    subst hI
    split at hst
    · split at hst
      · cases hst
        exact W.iret hx hb hr (fun t ht hW => hq _ t ht hW) hS0.2.2 hd hlocks
      · split at hst
        · rename_i hv2
          cases hst
          refine W.zret hx hb hr ?_ (fun t ht hW => hq _ t ht hW) hS0.2.2 hd hlocks
          rcases hv2 with rfl | rfl <;> rfl
        · cases hst
      · cases hst
    · cases hst
  case h_2 =>
    dsimp only at hI
    rw [decide_eq_true_eq] at hI
    subst hI
    split at hst
    · split at hst
      · cases hst
        exact W.lret hx hb hr (fun t ht hW => hq _ t ht hW) hS0.2.2 hd hlocks
      · cases hst
    · cases hst
  case h_3 =>
    dsimp only at hI
    rw [decide_eq_true_eq] at hI
    subst hI
    split at hst
    · split at hst
      · cases hst
        exact W.aret hx hb hr (Or.inl ⟨_, rfl⟩) (Or.inr ⟨_, rfl⟩) (fun t ht hW => hq _ t ht hW) hS0.2.2 hd hlocks
      · cases hst
    · split at hst
      · cases hst
        exact W.aret hx hb hr (Or.inl ⟨_, rfl⟩) (Or.inl rfl) (fun t ht hW => hq _ t ht hW) hS0.2.2 hd hlocks
      · cases hst
    · cases hst
  case h_4 =>
    dsimp only at hI
    rw [decide_eq_true_eq] at hI
    subst hI
    split at hst
    · split at hst
      · cases hst
        exact W.vret hx hb hr (fun t ht hW => hq _ t ht hW) hS0.2.2 hd hlocks
      · cases hst
    · cases hst
  case h_5 => cases hst
/-- behind a call -/
theorem sn_back {bp : Nat} {L : Array Slot} {st0 rest : List Value} {a : Array Value} {r1 : Option Value} {h1 : AH} {mc1 ms1 : Nat} (hr : va_Run p l e R s m args below meth c H locs cells slots mc1 ms1 (F0 m bp L st0) rest (PostM B hv tn sb cA D r1 h1 a) (AB B)) (hS0 : va_S (AB B) s.heap H locs)
    (kk : ∀ (H1 : Heap) (locs1 : List Loc), HRel B hv tn sb cA D s h1 H1 → va_S (AB B) s.heap H1 locs1 → W p l e R s m args below meth c H1 locs1 (cells + mc1) (slots + ms1) Q (F0 m (bp + 3) L ((r1.map (vz (rho B hv tn sb))).toList ++ rest))) : W p l e R s m args below meth c H locs cells slots Q (F0 m bp L st0) := by
  intro T hT X
  obtain ⟨v, st₀, t, T', Lx, h0, X', hL, e1, e2, ⟨hv, hRt, hz, hk⟩, st⟩ := hr T hT X
  cases hv
  rw [h0] at hz hk
  have hal : s.vm.Alike t.vm := by rw [← e2]; exact X'.warmed.alike
  obtain ⟨t2, a1, b1⟩ := kk T'.heap (locs ++ Lx) (by rw [e1]; exact hRt.moved hal.symm)
    ⟨Nat.le_trans hS0.1 (by rw [e1]; exact hz), fun q h1 h2 => by rw [e1, hk q (Nat.lt_of_lt_of_le h1 hS0.1) h2]; exact hS0.2.1 q h1 h2, fun q hq => by
      rcases List.mem_append.mp hq with h | h
      · exact hS0.2.2 q h
      · exact hL q h⟩ T' rfl X'
  exact ⟨t2, st t2 a1, b1⟩
end
