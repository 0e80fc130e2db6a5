/-! THE CLASS, 21: Meetings -/
def bl (x : Int64) (i : Nat) : Bool := x.toBitVec.getLsbD i
theorem bl_ext {x y : Int64} (h : ∀ i, i < 64 → bl x i = bl y i) : x = y := Int64.toBitVec_inj.mp (BitVec.eq_of_getLsbD_eq (fun i hi => h i hi))
def mk64 (P : Nat → Bool) : Int64 := Int64.ofBitVec (BitVec.ofNat 64 (natM P 64))
theorem mk64_bl (P : Nat → Bool) {i : Nat} (hi : i < 64) : bl (mk64 P) i = P i := by
  unfold bl mk64
  show (BitVec.ofNat 64 (natM P 64)).getLsbD i = _
  rw [BitVec.getLsbD_ofNat, natM_tb]
  simp [hi]
theorem mk64_or (P Q : Nat → Bool) : mk64 P ||| mk64 Q = mk64 (fun e => P e || Q e) := bl_ext (fun i hi => by
  rw [mk64_bl _ hi]
  unfold bl
  rw [Int64.toBitVec_or, BitVec.getLsbD_or]
  show (bl (mk64 P) i || bl (mk64 Q) i) = _
  rw [mk64_bl _ hi, mk64_bl _ hi])
theorem mk64_congr {P Q : Nat → Bool} (h : ∀ i, i < 64 → P i = Q i) : mk64 P = mk64 Q := bl_ext (fun i hi => by rw [mk64_bl _ hi, mk64_bl _ hi, h i hi])
theorem mk64_0 : mk64 (fun _ => false) = 0 := by decide +kernel
theorem s_64 : ∀ c, c < 64 → (((nI c).toInt64 &&& 63).toBitVec.smod 64).toNat = c := by decide +kernel
theorem one_64 {c : Nat} (hc : c < 64) : (1 : Int64) <<< ((nI c).toInt64 &&& 63) = mk64 (fun e => decide (e = c)) := bl_ext (fun i hi => by
  rw [mk64_bl _ hi]
  unfold bl
  rw [Int64.toBitVec_shiftLeft]
  show ((1 : Int64).toBitVec <<< (((nI c).toInt64 &&& 63).toBitVec.smod 64).toNat).getLsbD i = _
  rw [s_64 c hc, BitVec.getLsbD_shiftLeft]
  show (decide (i < 64) && !decide (i < c) && (BitVec.ofNat 64 1).getLsbD (i - c)) = _
  rw [BitVec.getLsbD_ofNat]
  by_cases e : i = c
  · subst e
    simp [hi]
  · rw [decide_eq_false e]
    rcases Nat.lt_or_ge i c with q | q
    · simp [q]
    · have h1 : (1 : Nat).testBit (i - c) = false := by
        rw [show (1 : Nat) = 2 ^ 0 by rfl, Nat.testBit_two_pow, decide_eq_false (by omega)]
      rw [h1]
      simp)
def exB (P : Nat → Bool) : Nat → Bool
  | 0 => false
  | k + 1 => exB P k || P k
theorem exB_succ (P : Nat → Bool) (k : Nat) : exB P (k + 1) = (exB P k || P k) := rfl
/-- which corners a corner knows of after r rounds -/
def knB (nb : Nat → Nat → Nat) (deg : Nat) : Nat → Nat → Nat → Bool
  | 0, c, e => decide (e = c)
  | r + 1, c, e => knB nb deg r c e || exB (fun k => knB nb deg r (nb c k) e) deg
def loM (N : Nat) (P : Nat → Bool) : Int64 := mk64 (fun e => decide (e < N) && P e)
def hiM (N : Nat) (P : Nat → Bool) : Int64 := mk64 (fun e => decide (e + 64 < N) && P (e + 64))
theorem loM_or (N : Nat) (P Q : Nat → Bool) : loM N P ||| loM N Q = loM N (fun e => P e || Q e) := by
  unfold loM
  rw [mk64_or]
  apply mk64_congr
  intro i _
  cases decide (i < N) <;> simp
theorem hiM_or (N : Nat) (P Q : Nat → Bool) : hiM N P ||| hiM N Q = hiM N (fun e => P e || Q e) := by
  unfold hiM
  rw [mk64_or]
  apply mk64_congr
  intro i _
  cases decide (i + 64 < N) <;> simp
theorem lohi {N : Nat} (hN : N ≤ 128) {P Q : Nat → Bool} : (loM N P = loM N Q ∧ hiM N P = hiM N Q) ↔ ∀ e, e < N → P e = Q e := by
  constructor
  · rintro ⟨h1, h2⟩ e he
    rcases Nat.lt_or_ge e 64 with q | q
    · have : bl (loM N P) e = bl (loM N Q) e := by rw [h1]
      unfold loM at this
      rw [mk64_bl _ q, mk64_bl _ q, decide_eq_true he] at this
      exact this
    · have : bl (hiM N P) (e - 64) = bl (hiM N Q) (e - 64) := by rw [h2]
      unfold hiM at this
      rw [mk64_bl _ (by omega), mk64_bl _ (by omega), show e - 64 + 64 = e by omega, decide_eq_true he] at this
      exact this
  · intro h
    constructor
    · apply mk64_congr
      intro i _
      by_cases c : i < N
      · rw [h i c]
      · rw [decide_eq_false c]; rfl
    · apply mk64_congr
      intro i _
      by_cases c : i + 64 < N
      · rw [h _ c]
      · rw [decide_eq_false c]; rfl
/-- each knows of all -/
def fuP (nb : Nat → Nat → Nat) (deg N r : Nat) : Prop := ∀ c, c < N → ∀ e, e < N → knB nb deg r c e = true
noncomputable def mrF (nb : Nat → Nat → Nat) (deg N : Nat) : Nat → Nat → Nat
  | 0, r => r
  | m + 1, r => if pb (fuP nb deg N r) = true then r else mrF nb deg N m (r + 1)
/-- Meetings at q -/
def MeC (h : AH) (q : Nat) (L H L2 H2 : Nat → Int64) : Prop := 3 ≤ q ∧ h.2 q = objA 3 [.ref (q + 1), .ref (q + 2), .ref (q + 3), .ref (q + 4)] ∧ h.2 (q + 1) = longs 120 L ∧ h.2 (q + 2) = longs 120 H ∧ h.2 (q + 3) = longs 120 L2 ∧ h.2 (q + 4) = longs 120 H2
section
variable {h h' : AH} {q : Nat} {L H L2 H2 : Nat → Int64} {N deg f : Nat} {Fl : NF} {nb : Nat → Nat → Nat}
theorem MeC.u1 (hM : MeC h q L H L2 H2) (F : Nat → Int64) : MeC (upH h (q + 1) (longs 120 F)) q F H L2 H2 := by
  obtain ⟨a0, a1, a2, a3, a4, a5⟩ := hM
  exact ⟨a0, (upH_ne _ _ (by omega)).trans a1, upH_at _ _ _, (upH_ne _ _ (by omega)).trans a3, (upH_ne _ _ (by omega)).trans a4, (upH_ne _ _ (by omega)).trans a5⟩
theorem MeC.u2 (hM : MeC h q L H L2 H2) (F : Nat → Int64) : MeC (upH h (q + 2) (longs 120 F)) q L F L2 H2 := by
  obtain ⟨a0, a1, a2, a3, a4, a5⟩ := hM
  exact ⟨a0, (upH_ne _ _ (by omega)).trans a1, (upH_ne _ _ (by omega)).trans a2, upH_at _ _ _, (upH_ne _ _ (by omega)).trans a4, (upH_ne _ _ (by omega)).trans a5⟩
theorem MeC.u3 (hM : MeC h q L H L2 H2) (F : Nat → Int64) : MeC (upH h (q + 3) (longs 120 F)) q L H F H2 := by
  obtain ⟨a0, a1, a2, a3, a4, a5⟩ := hM
  exact ⟨a0, (upH_ne _ _ (by omega)).trans a1, (upH_ne _ _ (by omega)).trans a2, (upH_ne _ _ (by omega)).trans a3, upH_at _ _ _, (upH_ne _ _ (by omega)).trans a5⟩
theorem MeC.u4 (hM : MeC h q L H L2 H2) (F : Nat → Int64) : MeC (upH h (q + 4) (longs 120 F)) q L H L2 F := by
  obtain ⟨a0, a1, a2, a3, a4, a5⟩ := hM
  exact ⟨a0, (upH_ne _ _ (by omega)).trans a1, (upH_ne _ _ (by omega)).trans a2, (upH_ne _ _ (by omega)).trans a3, (upH_ne _ _ (by omega)).trans a4, upH_at _ _ _⟩
theorem lc_allKnow (d : Nat) (hM : MeC h q L H L2 H2) (hN : N ≤ 120) (aL aH : Int64) : ∀ (m c : Nat), c + m = N → (∀ e, e < c → L e = aL ∧ H e = aH) → R d 3 2 [some (.ref q), some (.long aL), none, some (.long aH), none, some (.int (nI N)), some (.int (nI c))] [] h (fun r2 h2 => r2 = some (.int (b2i (pb (∀ e, e < N → L e = aL ∧ H e = aH)))) ∧ h2 = h) := by
  have kC9 := co_ME_allKnow
  have q3 := hM.1
  intro m
  induction m with
  | zero =>
    intro c hc hk
    repeat (refine R_s kC9 rfl rfl ?_)
    refine R_ge kC9 rfl (rfl) (rfl) (by omega) (by omega) (fun hc => ?_) (fun hc => ?_)
    · repeat (refine R_s kC9 rfl rfl ?_)
      exact R_rz kC9 rfl (Or.inr rfl) ⟨ri_eq (b2i_t (pb_true.mpr (fun e he => hk e (by omega)))), rfl⟩
    · omega
  | succ m ih =>
    intro c hc hk
    repeat (refine R_s kC9 rfl rfl ?_)
    refine R_ge kC9 rfl (rfl) (rfl) (by omega) (by omega) (fun hc => ?_) (fun hc => ?_)
    · omega
    · repeat (refine R_s kC9 rfl rfl ?_)
      refine R_get kC9 rfl (hM.2.1) rfl ?_
      repeat (refine R_s kC9 rfl rfl ?_)
      refine R_lld kC9 rfl hM.2.2.1 (by omega) (k := c) rfl (by omega) (by omega) ?_
      repeat (refine R_s kC9 rfl rfl ?_)
      refine Zr_ne kC9 rfl (fun hd => ?_) (fun hd => ?_)
      · repeat (refine R_s kC9 rfl rfl ?_)
        exact R_rz kC9 rfl (Or.inl rfl) ⟨ri_eq (b2i_f (pb_false.mpr (fun z => hd ((lg_eq0 _ _).mpr (z c (by omega)).1)))), rfl⟩
      · repeat (refine R_s kC9 rfl rfl ?_)
        refine R_get kC9 rfl (hM.2.1) rfl ?_
        repeat (refine R_s kC9 rfl rfl ?_)
        refine R_lld kC9 rfl hM.2.2.2.1 (by omega) (k := c) rfl (by omega) (by omega) ?_
        repeat (refine R_s kC9 rfl rfl ?_)
        refine Zr_eq kC9 rfl (fun he => ?_) (fun he => ?_)
        · repeat (refine R_s kC9 rfl rfl ?_)
          refine R_g kC9 rfl ?_
          refine (show R d 3 2 [some (.ref q), some (.long aL), none, some (.long aH), none, some (.int (nI N)), some (.int (nI c + nI 1))] [] h _ from ?_)
          rw [nI_add]
          refine ih (c + 1) (by omega) (fun e hee => ?_)
          by_cases ec : e = c
          · subst ec; exact ⟨(lg_eq0 _ _).mp hd, (lg_eq0 _ _).mp he⟩
          · exact hk e (by omega)
        · repeat (refine R_s kC9 rfl rfl ?_)
          exact R_rz kC9 rfl (Or.inl rfl) ⟨ri_eq (b2i_f (pb_false.mpr (fun z => he ((lg_eq0 _ _).mpr (z c (by omega)).2)))), rfl⟩
theorem sp_ME_allKnow (d : Nat) (hM : MeC h q L H L2 H2) (hN : N ≤ 120) (aL aH : Int64) : Cl d 3 [.ref q, .long aL, .long aH, .int (nI N)] h (some (.int (b2i (pb (∀ e, e < N → L e = aL ∧ H e = aH))))) h := by
  have kC9 := co_ME_allKnow
  refine Cl_of kC9 rfl rfl ?_
  iterate 2 (refine R_s kC9 rfl rfl ?_)
  exact lc_allKnow d hM hN aL aH N 0 (by omega) (fun e he => by omega)
/-- rows of what is known -/
def kwR (N : Nat) (K : Nat → Nat → Bool) (L H : Nat → Int64) : Prop := ∀ c, c < N → L c = loM N (K c) ∧ H c = hiM N (K c)
theorem lc_tellK (d : Nat) (Q : Option Value → AH → Prop) (hM : MeC h q L H L2 H2) (hFl : h.2 f = ints 480 Fl) (hN : N ≤ 120) (hdeg : deg ≤ 4) (hnb : ∀ c k, c < N → k < deg → nb c k < N ∧ Fl (4 * c + k) = nI (nb c k)) {K : Nat → Nat → Bool} (hK : kwR N K L H) {c : Nat} (hc : c < N) (kk : ∀ w : Option Value, (w = none ∨ ∃ x : Int32, w = some (.int x)) → R d 4 44 [some (.ref q), some (.ref f), some (.int (nI N)), some (.int (nI deg)), some (.int (nI c)), some (.long (loM N (fun e => K c e || exB (fun k => K (nb c k) e) deg))), none, some (.long (hiM N (fun e => K c e || exB (fun k => K (nb c k) e) deg))), none, some (.int (nI deg)), w] [] h Q) : ∀ (m k : Nat) (w : Option Value), k + m = deg → (w = none ∨ ∃ x : Int32, w = some (.int x)) → R d 4 17 [some (.ref q), some (.ref f), some (.int (nI N)), some (.int (nI deg)), some (.int (nI c)), some (.long (loM N (fun e => K c e || exB (fun k => K (nb c k) e) k))), none, some (.long (hiM N (fun e => K c e || exB (fun k => K (nb c k) e) k))), none, some (.int (nI k)), w] [] h Q := by
  have kC9 := co_ME_tell
  have q3 := hM.1
  intro m
  induction m with
  | zero =>
    intro k w hk hw
    have : k = deg := by omega
    subst this
    repeat (refine R_s kC9 rfl rfl ?_)
    refine R_ge kC9 rfl (rfl) (rfl) (by omega) (by omega) (fun hc => ?_) (fun hc => ?_)
    · exact kk w hw
    · omega
  | succ m ih =>
    intro k w hk hw
    obtain ⟨n1, n2⟩ := hnb c k hc (by omega)
    obtain ⟨k1, k2⟩ := hK _ n1
    have body : R d 4 28 [some (.ref q), some (.ref f), some (.int (nI N)), some (.int (nI deg)), some (.int (nI c)), some (.long (loM N (fun e => K c e || exB (fun k => K (nb c k) e) k))), none, some (.long (hiM N (fun e => K c e || exB (fun k => K (nb c k) e) k))), none, some (.int (nI k)), some (.int (nI (nb c k)))] [] h Q := by
      repeat (refine R_s kC9 rfl rfl ?_)
      refine R_get kC9 rfl (hM.2.1) rfl ?_
      repeat (refine R_s kC9 rfl rfl ?_)
      refine R_lld kC9 rfl hM.2.2.1 (by omega) (k := nb c k) rfl (by omega) (by omega) ?_
      rw [k1]
      repeat (refine R_s kC9 rfl rfl ?_)
      refine R_get kC9 rfl (hM.2.1) rfl ?_
      repeat (refine R_s kC9 rfl rfl ?_)
      refine R_lld kC9 rfl hM.2.2.2.1 (by omega) (k := nb c k) rfl (by omega) (by omega) ?_
      rw [k2]
      repeat (refine R_s kC9 rfl rfl ?_)
      refine R_g kC9 rfl ?_
      refine (show R d 4 17 [some (.ref q), some (.ref f), some (.int (nI N)), some (.int (nI deg)), some (.int (nI c)), some (.long (loM N (fun e => K c e || exB (fun k => K (nb c k) e) k) ||| loM N (K (nb c k)))), none, some (.long (hiM N (fun e => K c e || exB (fun k => K (nb c k) e) k) ||| hiM N (K (nb c k)))), none, some (.int (nI k + nI 1)), some (.int (nI (nb c k)))] [] h Q from ?_)
      rw [nI_add, loM_or, hiM_or]
      have e : (fun e => K c e || exB (fun k => K (nb c k) e) k || K (nb c k) e) = fun e => K c e || exB (fun k => K (nb c k) e) (k + 1) := by
        funext e
        rw [exB_succ, Bool.or_assoc]
      rw [e]
      exact ih (k + 1) _ (by omega) (Or.inr ⟨_, rfl⟩)
    repeat (refine R_s kC9 rfl rfl ?_)
    refine R_ge kC9 rfl (rfl) (rfl) (by omega) (by omega) (fun hc => ?_) (fun hc => ?_)
    · omega
    · repeat (refine R_s kC9 rfl rfl ?_)
      refine R_ild kC9 rfl hFl (k := 4 * c + k) (show nI c * nI 4 + nI k = _ by rw [pk_mul, nI_add, Nat.mul_comm]) (by omega) (by omega) ?_
      rw [n2]
      rcases hw with rfl | ⟨x, rfl⟩
      · iterate 1 (refine R_s kC9 rfl rfl ?_)
        exact body
      · iterate 1 (refine R_s kC9 rfl rfl ?_)
        exact body
end
