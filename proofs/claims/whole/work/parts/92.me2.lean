/-! THE CLASS, 22: Meetings: tell, roundsToAll -/
section
variable {h h' : AH} {q : Nat} {N deg f : Nat} {Fl : NF} {nb : Nat → Nat → Nat}
def nxK (nb : Nat → Nat → Nat) (deg : Nat) (K : Nat → Nat → Bool) : Nat → Nat → Bool := fun c e => K c e || exB (fun k => K (nb c k) e) deg
/-- locals that are not yet, or already, in use -/
def lw6 (l : List (Option Value)) : Prop := l = [none, none, none, none, none, none] ∨ ∃ (a b : Int64) (x : Int32) (w : Option Value), l = [some (.long a), none, some (.long b), none, some (.int x), w] ∧ (w = none ∨ ∃ y : Int32, w = some (.int y))
theorem lc_tellC (d : Nat) (Q : Option Value → AH → Prop) {L H : Nat → Int64} (hfq : f < q ∨ q + 4 < f) (hN : N ≤ 120) (hdeg : deg ≤ 4) (hnb : ∀ c k, c < N → k < deg → nb c k < N ∧ Fl (4 * c + k) = nI (nb c k)) {K : Nat → Nat → Bool} (hK : kwR N K L H) (kk : ∀ (h2 : AH) (L2 H2 : Nat → Int64) (l : List (Option Value)), lw6 l → frI (q + 1) (q + 4) h h2 → MeC h2 q L H L2 H2 → kwR N (nxK nb deg K) L2 H2 → R d 4 56 (some (.ref q) :: some (.ref f) :: some (.int (nI N)) :: some (.int (nI deg)) :: some (.int (nI N)) :: l) [] h2 Q) : ∀ (m c : Nat) (h2 : AH) (L2 H2 : Nat → Int64) (l : List (Option Value)), c + m = N → lw6 l → frI (q + 1) (q + 4) h h2 → MeC h2 q L H L2 H2 → h2.2 f = ints 480 Fl → (∀ e, e < c → L2 e = loM N (nxK nb deg K e) ∧ H2 e = hiM N (nxK nb deg K e)) → R d 4 2 (some (.ref q) :: some (.ref f) :: some (.int (nI N)) :: some (.int (nI deg)) :: some (.int (nI c)) :: l) [] h2 Q := by
  have kC9 := co_ME_tell
  intro m
  induction m with
  | zero =>
    intro c h2 L2 H2 l hc hl hf hM hFl hk
    have : c = N := by omega
    subst this
    repeat (refine R_s kC9 rfl rfl ?_)
    refine R_ge kC9 rfl (rfl) (rfl) (by omega) (by omega) (fun hc => ?_) (fun hc => ?_)
    · exact kk h2 L2 H2 l hl hf hM hk
    · omega
  | succ m ih =>
    intro c h2 L2 H2 l hc hl hf hM hFl hk
    have q3 := hM.1
    obtain ⟨k1, k2⟩ := hK c (by omega)
    have body : ∀ w : Option Value, (w = none ∨ ∃ x : Int32, w = some (.int x)) → R d 4 17 [some (.ref q), some (.ref f), some (.int (nI N)), some (.int (nI deg)), some (.int (nI c)), some (.long (loM N (K c))), none, some (.long (hiM N (K c))), none, some (.int (nI 0)), w] [] h2 Q := by
      intro w hw
      have key := lc_tellK d Q hM hFl hN hdeg hnb hK (show c < N by omega) (fun w2 hw2 => ?_) deg 0 w (by omega) hw
      · have e : (fun e => K c e || exB (fun k => K (nb c k) e) 0) = K c := by
          funext e
          show (K c e || false) = _
          rw [Bool.or_false]
        rw [e] at key
        exact key
      · repeat (refine R_s kC9 rfl rfl ?_)
        refine R_get kC9 rfl (hM.2.1) rfl ?_
        repeat (refine R_s kC9 rfl rfl ?_)
        refine R_lst kC9 rfl hM.2.2.2.2.1 (by omega) (k := c) rfl (by omega) (by omega) ?_
        have hM1 := hM.u3 (vp_updL L2 c (loM N (fun e => K c e || exB (fun k => K (nb c k) e) deg)))
        repeat (refine R_s kC9 rfl rfl ?_)
        refine R_get kC9 rfl (hM1.2.1) rfl ?_
        repeat (refine R_s kC9 rfl rfl ?_)
        refine R_lst kC9 rfl hM1.2.2.2.2.2 (by omega) (k := c) rfl (by omega) (by omega) ?_
        have hM2 := hM1.u4 (vp_updL H2 c (hiM N (fun e => K c e || exB (fun k => K (nb c k) e) deg)))
        iterate 1 (refine R_s kC9 rfl rfl ?_)
        refine R_g kC9 rfl ?_
        refine (show R d 4 2 (some (.ref q) :: some (.ref f) :: some (.int (nI N)) :: some (.int (nI deg)) :: some (.int (nI c + nI 1)) :: [some (.long (loM N (fun e => K c e || exB (fun k => K (nb c k) e) deg))), none, some (.long (hiM N (fun e => K c e || exB (fun k => K (nb c k) e) deg))), none, some (.int (nI deg)), w2]) [] _ Q from ?_)
        rw [nI_add]
        refine ih (c + 1) _ _ _ _ (by omega) (Or.inr ⟨_, _, _, _, rfl, ?_⟩) ((hf.up _ (by omega) (by omega)).up _ (by omega) (by omega)) hM2 ?_ (fun e he => ?_)
        · exact hw2
        · rw [upH_ne _ _ (by omega), upH_ne _ _ (by omega)]; exact hFl
        · by_cases ec : e = c
          · subst ec; rw [updL_s, updL_s]; exact ⟨rfl, rfl⟩
          · rw [updL_n ec, updL_n ec]; exact hk e (by omega)
    repeat (refine R_s kC9 rfl rfl ?_)
    refine R_ge kC9 rfl (rfl) (rfl) (by omega) (by omega) (fun hc => ?_) (fun hc => ?_)
    · omega
    · repeat (refine R_s kC9 rfl rfl ?_)
      refine R_get kC9 rfl (hM.2.1) rfl ?_
      repeat (refine R_s kC9 rfl rfl ?_)
      refine R_lld kC9 rfl hM.2.2.1 (by omega) (k := c) rfl (by omega) (by omega) ?_
      rw [k1]
      rcases hl with rfl | ⟨a, b2, x, w, rfl, hw⟩
      · iterate 2 (refine R_s kC9 rfl rfl ?_)
        refine R_get kC9 rfl (hM.2.1) rfl ?_
        repeat (refine R_s kC9 rfl rfl ?_)
        refine R_lld kC9 rfl hM.2.2.2.1 (by omega) (k := c) rfl (by omega) (by omega) ?_
        rw [k2]
        iterate 3 (refine R_s kC9 rfl rfl ?_)
        exact body none (Or.inl rfl)
      · iterate 2 (refine R_s kC9 rfl rfl ?_)
        refine R_get kC9 rfl (hM.2.1) rfl ?_
        repeat (refine R_s kC9 rfl rfl ?_)
        refine R_lld kC9 rfl hM.2.2.2.1 (by omega) (k := c) rfl (by omega) (by omega) ?_
        rw [k2]
        iterate 3 (refine R_s kC9 rfl rfl ?_)
        exact body w hw
theorem lc_tellE (d : Nat) {K : Nat → Nat → Bool} {L2 H2 : Nat → Int64} (hN : N ≤ 120) (hK : kwR N K L2 H2) : ∀ (m c : Nat) (h2 : AH) (L H : Nat → Int64) (l : List (Option Value)), c + m = N → frI (q + 1) (q + 4) h h2 → MeC h2 q L H L2 H2 → (∀ e, e < c → L e = loM N (K e) ∧ H e = hiM N (K e)) → R d 4 58 (some (.ref q) :: some (.ref f) :: some (.int (nI N)) :: some (.int (nI deg)) :: some (.int (nI c)) :: l) [] h2 (fun r2 h3 => r2 = none ∧ ∃ L3 H3 L4 H4, frI (q + 1) (q + 4) h h3 ∧ MeC h3 q L3 H3 L4 H4 ∧ kwR N K L3 H3) := by
  have kC9 := co_ME_tell
  intro m
  induction m with
  | zero =>
    intro c h2 L H l hc hf hM hk
    have : c = N := by omega
    subst this
    repeat (refine R_s kC9 rfl rfl ?_)
    refine R_ge kC9 rfl (rfl) (rfl) (by omega) (by omega) (fun hc => ?_) (fun hc => ?_)
    · exact R_rv kC9 rfl ⟨rfl, L, H, L2, H2, hf, hM, hk⟩
    · omega
  | succ m ih =>
    intro c h2 L H l hc hf hM hk
    have q3 := hM.1
    obtain ⟨k1, k2⟩ := hK c (by omega)
    repeat (refine R_s kC9 rfl rfl ?_)
    refine R_ge kC9 rfl (rfl) (rfl) (by omega) (by omega) (fun hc => ?_) (fun hc => ?_)
    · omega
    · repeat (refine R_s kC9 rfl rfl ?_)
      refine R_get kC9 rfl (hM.2.1) rfl ?_
      repeat (refine R_s kC9 rfl rfl ?_)
      refine R_get kC9 rfl (hM.2.1) rfl ?_
      repeat (refine R_s kC9 rfl rfl ?_)
      refine R_lld kC9 rfl hM.2.2.2.2.1 (by omega) (k := c) rfl (by omega) (by omega) ?_
      refine R_lst kC9 rfl hM.2.2.1 (by omega) (k := c) rfl (by omega) (by omega) ?_
      have hM1 := hM.u1 (vp_updL L c (L2 c))
      repeat (refine R_s kC9 rfl rfl ?_)
      refine R_get kC9 rfl (hM1.2.1) rfl ?_
      repeat (refine R_s kC9 rfl rfl ?_)
      refine R_get kC9 rfl (hM1.2.1) rfl ?_
      repeat (refine R_s kC9 rfl rfl ?_)
      refine R_lld kC9 rfl hM1.2.2.2.2.2 (by omega) (k := c) rfl (by omega) (by omega) ?_
      refine R_lst kC9 rfl hM1.2.2.2.1 (by omega) (k := c) rfl (by omega) (by omega) ?_
      have hM2 := hM1.u2 (vp_updL H c (H2 c))
      iterate 1 (refine R_s kC9 rfl rfl ?_)
      refine R_g kC9 rfl ?_
      refine (show R d 4 58 (some (.ref q) :: some (.ref f) :: some (.int (nI N)) :: some (.int (nI deg)) :: some (.int (nI c + nI 1)) :: l) [] _ _ from ?_)
      rw [nI_add]
      refine ih (c + 1) _ _ _ l (by omega) ((hf.up _ (by omega) (by omega)).up _ (by omega) (by omega)) hM2 (fun e he => ?_)
      by_cases ec : e = c
      · subst ec; rw [updL_s, updL_s]; exact ⟨k1, k2⟩
      · rw [updL_n ec, updL_n ec]; exact hk e (by omega)
theorem sp_ME_tell (d : Nat) {L H L2 H2 : Nat → Int64} (hM : MeC h q L H L2 H2) (hFl : h.2 f = ints 480 Fl) (hfq : f < q ∨ q + 4 < f) (hN : N ≤ 120) (hdeg : deg ≤ 4) (hnb : ∀ c k, c < N → k < deg → nb c k < N ∧ Fl (4 * c + k) = nI (nb c k)) {K : Nat → Nat → Bool} (hK : kwR N K L H) : ∃ h', (∃ L3 H3 L4 H4, frI (q + 1) (q + 4) h h' ∧ MeC h' q L3 H3 L4 H4 ∧ kwR N (nxK nb deg K) L3 H3) ∧ Cl d 4 [.ref q, .ref f, .int (nI N), .int (nI deg)] h none h' := by
  have kC9 := co_ME_tell
  refine Cl_eH kC9 rfl rfl ?_
  iterate 2 (refine R_s kC9 rfl rfl ?_)
  refine lc_tellC (h := h) d _ hfq hN hdeg hnb hK (fun h2 L3 H3 l hl q1 q2 q3 => ?_) N 0 h L2 H2 [none, none, none, none, none, none] (by omega) (Or.inl rfl) (frI.refl _ _ _) hM hFl (fun e he => by omega)
  iterate 2 (refine R_s kC9 rfl rfl ?_)
  exact lc_tellE (h := h) d hN q3 N 0 h2 L H l (by omega) q1 q2 (fun e he => by omega)
end
