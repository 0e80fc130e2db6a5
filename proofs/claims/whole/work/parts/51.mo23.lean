/-! THE REFERENCE, 22: around, standing, isAhead, changes, setOf, flipOf, isLast -/
def arF (A : Int32) (p : Nat) : Nat → Nat → Nat → Nat
  | 0, _, f => f
  | m + 1, s, f => arF A p m (s + 1) (if (bt A s && s.testBit p && decide (pc s < pc f)) = true then s else f)
theorem arF_succ (A : Int32) (p m s f : Nat) : arF A p (m + 1) s f = arF A p m (s + 1) (if (bt A s && s.testBit p && decide (pc s < pc f)) = true then s else f) := rfl
def aroundN (n : Nat) (A : Int32) (p : Nat) : Nat := arF A p (2 ^ n - 2) 1 (2 ^ n - 1)
def stB (S : Int32) (by_ p s : Nat) : Bool := bt S s && decide (s &&& by_ = s) && s.testBit p
def stdN (S : Int32) (by_ p : Nat) : Nat := cnt (stB S by_ p) 32
theorem arF_lt (A : Int32) (p : Nat) : ∀ (m s f : Nat), s + m ≤ 32 → f < 32 → arF A p m s f < 32
  | 0, _, _, _, h => h
  | m + 1, s, f, h, hf => by
    rw [arF_succ]
    refine arF_lt A p m (s + 1) _ (by omega) ?_
    split <;> omega
def ahF (x y : Nat → Nat) : Nat → Nat → Bool
  | 0, _ => false
  | m + 1, p => if x p = y p then ahF x y m (p + 1) else decide (x p < y p)
theorem ahF_succ (x y : Nat → Nat) (m p : Nat) : ahF x y (m + 1) p = if x p = y p then ahF x y m (p + 1) else decide (x p < y p) := rfl
def restM (A : Int32) (s : Nat) : Int32 := A &&& ((nI 1 <<< (nI s &&& 31)) ^^^ (-1))
def flF (rest : Int32) (c : Nat) : List Int32 → Nat → Option Nat
  | [], _ => none
  | x :: l, o => if ¬ o = c ∧ x &&& rest = rest then some o else flF rest c l (o + 1)
theorem flF_cons (rest : Int32) (c : Nat) (x : Int32) (l : List Int32) (o : Nat) : flF rest c (x :: l) o = if ¬ o = c ∧ x &&& rest = rest then some o else flF rest c l (o + 1) := rfl
def optI (o : Option Nat) : Int32 := match o with
  | some o => nI o
  | none => -5
section
variable {h : AH} {k fed pl le fi co : Int32} {G C St : Nat → Int32} {n : Nat} {S : Int32}
theorem lp_around (d : Nat) (ho : h.2 76 = mob k fed pl le fi co) (hg : h.2 77 = ints 106 G) (hn : n ≤ 5) (h0 : G 0 = nI n) (A : Int32) {p : Nat} (hp5 : p < 32) : ∀ (m s f : Nat), s + m = 2 ^ n - 1 → f < 32 → R (d + 1) 194 5 [some (.ref 76), some (.int A), some (.int (nI p)), some (.int (nI f)), some (.int (nI s))] [] h (fun r2 h2 => r2 = some (.int (nI (arF A p m s f))) ∧ h2 = h) := by
  have kC9 := co_MO_around
  have hp := pow5 hn
  intro m
  induction m with
  | zero =>
    intro s f hs hf
    repeat (refine R_s kC9 rfl rfl ?_)
    refine R_cv kC9 rfl rfl rfl rfl (ho) (by decide) (sp_MO_whole d ho hg hn h0) ?_
    refine R_ge kC9 rfl (rfl) (rfl) (by omega) (by omega) (fun hc => ?_) (fun hc => ?_)
    · repeat (refine R_s kC9 rfl rfl ?_)
      exact R_ri kC9 rfl ⟨rfl, rfl⟩
    · omega
  | succ m ih =>
    intro s f hs hf
    rw [arF_succ]
    have goon : ∀ f2 : Nat, f2 < 32 → R (d + 1) 194 28 [some (.ref 76), some (.int A), some (.int (nI p)), some (.int (nI f)), some (.int (nI s))] [.int (nI f2)] h (fun r2 h2 => r2 = some (.int (nI (arF A p m (s + 1) f2))) ∧ h2 = h) := by
      intro f2 hf2
      repeat (refine R_s kC9 rfl rfl ?_)
      refine R_g kC9 rfl ?_
      refine (show R (d + 1) 194 5 [some (.ref 76), some (.int A), some (.int (nI p)), some (.int (nI f2)), some (.int (nI s + nI 1))] [] h _ from ?_)
      rw [nI_add]
      exact ih (s + 1) f2 (by omega) hf2
    have no : (bt A s && s.testBit p && decide (pc s < pc f)) = false → R (d + 1) 194 27 [some (.ref 76), some (.int A), some (.int (nI p)), some (.int (nI f)), some (.int (nI s))] [] h (fun r2 h2 => r2 = some (.int (nI (arF A p m (s + 1) (if (bt A s && s.testBit p && decide (pc s < pc f)) = true then s else f)))) ∧ h2 = h) := by
      intro q
      rw [q, if_neg (by decide)]
      iterate 1 (refine R_s kC9 rfl rfl ?_)
      exact goon f hf
    repeat (refine R_s kC9 rfl rfl ?_)
    refine R_cv kC9 rfl rfl rfl rfl (ho) (by decide) (sp_MO_whole d ho hg hn h0) ?_
    refine R_ge kC9 rfl (rfl) (rfl) (by omega) (by omega) (fun hc => ?_) (fun hc => ?_)
    · omega
    · repeat (refine R_s kC9 rfl rfl ?_)
      refine (show R (d + 1) 194 15 _ [.int (nI 1), .int ((A >>> (nI s &&& 31)) &&& nI 1)] h _ from ?_)
      rw [shr_bt (by omega), b2i_nI (bt A s)]
      refine R_ne kC9 rfl rfl rfl (by cases bt A s <;> decide) (by decide) (fun hd => ?_) (fun hd => ?_)
      · exact no (by rw [(b2i_ne1 _).mp hd]; rfl)
      · have hb : bt A s = true := by cases hq : bt A s with | true => rfl | false => rw [hq] at hd; cases hd
        repeat (refine R_s kC9 rfl rfl ?_)
        refine R_cs kC9 rfl rfl rfl rfl (sp_MO_has d (by omega) hp5 h) ?_
        refine ZB_eq kC9 rfl (fun hq => no (by rw [hb, hq]; rfl)) (fun hq => ?_)
        repeat (refine R_s kC9 rfl rfl ?_)
        refine R_cs kC9 rfl rfl rfl rfl (sp_MO_bits d (by omega) h) ?_
        repeat (refine R_s kC9 rfl rfl ?_)
        refine R_cs kC9 rfl rfl rfl rfl (sp_MO_bits d (by omega) h) ?_
        have p1 : pc s ≤ 5 := by unfold pc; omega
        have p2 : pc f ≤ 5 := by unfold pc; omega
        refine R_ge kC9 rfl (rfl) (rfl) (by omega) (by omega) (fun hc => ?_) (fun hc => ?_)
        · exact no (by rw [hb, hq, decide_eq_false (by omega)]; rfl)
        · rw [hb, hq, decide_eq_true hc, if_pos (show (true && true && true) = true from rfl)]
          iterate 1 (refine R_s kC9 rfl rfl ?_)
          refine R_g kC9 rfl ?_
          exact goon s (by omega)
theorem sp_MO_around (d : Nat) (ho : h.2 76 = mob k fed pl le fi co) (hg : h.2 77 = ints 106 G) (hn : n ≤ 5) (hn1 : 1 ≤ n) (h0 : G 0 = nI n) (A : Int32) {p : Nat} (hp5 : p < 32) : Cl (d + 1) 194 [.ref 76, .int A, .int (nI p)] h (some (.int (nI (aroundN n A p)))) h := by
  have kC9 := co_MO_around
  refine Cl_of kC9 rfl rfl ?_
  have hp := pow5 hn
  have hp2 : 2 ≤ 2 ^ n := (Nat.pow_le_pow_right (by omega) hn1 : 2 ^ 1 ≤ 2 ^ n)
  repeat (refine R_s kC9 rfl rfl ?_)
  refine R_cv kC9 rfl rfl rfl rfl (ho) (by decide) (sp_MO_whole d ho hg hn h0) ?_
  iterate 3 (refine R_s kC9 rfl rfl ?_)
  exact lp_around d ho hg hn h0 A hp5 (2 ^ n - 2) 1 (2 ^ n - 1) (by omega) (by omega)
theorem lp_standing (d : Nat) (ho : h.2 76 = mob k fed pl le fi co) (hg : h.2 77 = ints 106 G) (hS : ∀ s, s < 32 → G (1 + s) = b2i (bt S s)) (A : Int32) {p by_ : Nat} (hp5 : p < 32) (hby : by_ < 32) : ∀ (m s : Nat), s + m = 32 → R (d + 1) 195 9 [some (.ref 76), some (.int A), some (.int (nI p)), some (.int (nI by_)), some (.int (nI (cnt (stB S by_ p) s))), some (.int (nI s))] [] h (fun r2 h2 => r2 = some (.int (nI (stdN S by_ p))) ∧ h2 = h) := by
  have kC9 := co_MO_standing
  intro m
  induction m with
  | zero =>
    intro s hs
    have : s = 32 := by omega
    subst this
    repeat (refine R_s kC9 rfl rfl ?_)
    refine R_ge kC9 rfl (rfl) (rfl) (by omega) (by omega) (fun hc => ?_) (fun hc => ?_)
    · repeat (refine R_s kC9 rfl rfl ?_)
      exact R_ri kC9 rfl ⟨rfl, rfl⟩
    · omega
  | succ m ih =>
    intro s hs
    have goon : ∀ b : Bool, b = stB S by_ p s → R (d + 1) 195 33 [some (.ref 76), some (.int A), some (.int (nI p)), some (.int (nI by_)), some (.int (nI (cnt (stB S by_ p) s))), some (.int (nI s))] [.int (nI b.toNat), .int (nI (cnt (stB S by_ p) s))] h (fun r2 h2 => r2 = some (.int (nI (stdN S by_ p))) ∧ h2 = h) := by
      intro b hb
      subst hb
      repeat (refine R_s kC9 rfl rfl ?_)
      refine R_g kC9 rfl ?_
      refine (show R (d + 1) 195 9 [some (.ref 76), some (.int A), some (.int (nI p)), some (.int (nI by_)), some (.int (nI (cnt (stB S by_ p) s) + nI (stB S by_ p s).toNat)), some (.int (nI s + nI 1))] [] h _ from ?_)
      rw [nI_add, nI_add]
      exact ih (s + 1) (by omega)
    repeat (refine R_s kC9 rfl rfl ?_)
    refine R_ge kC9 rfl (rfl) (rfl) (by omega) (by omega) (fun hc => ?_) (fun hc => ?_)
    · omega
    · have h32 : s < 32 := by omega
      repeat (refine R_s kC9 rfl rfl ?_)
      refine R_get kC9 rfl (ho) rfl ?_
      repeat (refine R_s kC9 rfl rfl ?_)
      refine R_ild kC9 rfl (hg) (nI_add 1 s) (by omega) (by decide) ?_
      rw [hS s h32, b2i_nI (bt S s)]
      repeat (refine R_s kC9 rfl rfl ?_)
      refine R_ne kC9 rfl rfl rfl (by cases bt S s <;> decide) (by decide) (fun hd => ?_) (fun hd => ?_)
      · iterate 1 (refine R_s kC9 rfl rfl ?_)
        exact goon false (by unfold stB; rw [(b2i_ne1 _).mp hd]; rfl)
      · have hb : bt S s = true := by cases hq : bt S s with | true => rfl | false => rw [hq] at hd; cases hd
        have hle : s &&& by_ ≤ s := Nat.and_le_left
        repeat (refine R_s kC9 rfl rfl ?_)
        refine R_ne kC9 rfl (nx_and s by_) rfl (by omega) (by omega) (fun hd => ?_) (fun hd => ?_)
        · iterate 1 (refine R_s kC9 rfl rfl ?_)
          exact goon false (by unfold stB; rw [hb, decide_eq_false hd]; rfl)
        · repeat (refine R_s kC9 rfl rfl ?_)
          refine R_cs kC9 rfl rfl rfl rfl (sp_MO_has d (by omega) hp5 h) ?_
          refine ZB_eq kC9 rfl (fun hq => ?_) (fun hq => ?_)
          · iterate 1 (refine R_s kC9 rfl rfl ?_)
            exact goon false (by unfold stB; rw [hq, Bool.and_false])
          · iterate 1 (refine R_s kC9 rfl rfl ?_)
            refine R_g kC9 rfl ?_
            exact goon true (by unfold stB; rw [hb, hq, decide_eq_true hd]; rfl)
theorem sp_MO_standing (d : Nat) (ho : h.2 76 = mob k fed pl le fi co) (hg : h.2 77 = ints 106 G) (hn : n ≤ 5) (hn1 : 1 ≤ n) (h0 : G 0 = nI n) (hS : ∀ s, s < 32 → G (1 + s) = b2i (bt S s)) (A : Int32) {p : Nat} (hp5 : p < 32) : Cl (d + 2) 195 [.ref 76, .int A, .int (nI p)] h (some (.int (nI (stdN S (aroundN n A p) p)))) h := by
  have kC9 := co_MO_standing
  refine Cl_of kC9 rfl rfl ?_
  have hp := pow5 hn
  have hlt : aroundN n A p < 32 := arF_lt A p _ _ _ (by omega) (by omega)
  repeat (refine R_s kC9 rfl rfl ?_)
  refine R_cv kC9 rfl rfl rfl rfl (ho) (by decide) (sp_MO_around d ho hg hn hn1 h0 A hp5) ?_
  iterate 5 (refine R_s kC9 rfl rfl ?_)
  have e1 : cnt (stB S (aroundN n A p) p) 1 = 0 := by simp [cnt, stB]
  refine (show R (d + 2) 195 9 [some (.ref 76), some (.int A), some (.int (nI p)), some (.int (nI (aroundN n A p))), some (.int (nI 0)), some (.int (nI 1))] [] h _ from ?_)
  rw [← e1]
  exact lp_standing (d + 1) ho hg hS A hp5 hlt 31 1 (by omega)
theorem lp_isAhead (d : Nat) (ho : h.2 76 = mob k fed pl le fi co) (hg : h.2 77 = ints 106 G) (hn : n ≤ 5) (h0 : G 0 = nI n) (hst : h.2 86 = ints 600 St) {a b : Nat} (ha : a < 120) (hb : b < 120) {x y : Nat → Nat} (hx : ∀ p, p < 5 → St (5 * a + p) = nI (x p) ∧ x p < 2 ^ 31) (hy : ∀ p, p < 5 → St (5 * b + p) = nI (y p) ∧ y p < 2 ^ 31) : ∀ (m p : Nat), p + m = n → R d 196 2 [some (.ref 76), some (.int (nI a)), some (.int (nI b)), some (.int (nI p))] [] h (fun r2 h2 => r2 = some (.int (b2i (ahF x y m p))) ∧ h2 = h) := by
  have kC9 := co_MO_isAhead
  intro m
  induction m with
  | zero =>
    intro p hp
    repeat (refine R_s kC9 rfl rfl ?_)
    refine R_get kC9 rfl (ho) rfl ?_
    repeat (refine R_s kC9 rfl rfl ?_)
    refine R_ild kC9 rfl (hg) (rfl) (by decide) (by decide) ?_
    rw [h0]
    refine R_ge kC9 rfl (rfl) (rfl) (by omega) (by omega) (fun hc => ?_) (fun hc => ?_)
    · repeat (refine R_s kC9 rfl rfl ?_)
      exact R_rz kC9 rfl (Or.inl rfl) ⟨rfl, rfl⟩
    · omega
  | succ m ih =>
    intro p hp
    rw [ahF_succ]
    have ea := hx p (by omega)
    have eb := hy p (by omega)
    repeat (refine R_s kC9 rfl rfl ?_)
    refine R_get kC9 rfl (ho) rfl ?_
    repeat (refine R_s kC9 rfl rfl ?_)
    refine R_ild kC9 rfl (hg) (rfl) (by decide) (by decide) ?_
    rw [h0]
    refine R_ge kC9 rfl (rfl) (rfl) (by omega) (by omega) (fun hc => ?_) (fun hc => ?_)
    · omega
    · repeat (refine R_s kC9 rfl rfl ?_)
      refine R_get kC9 rfl (ho) rfl ?_
      repeat (refine R_s kC9 rfl rfl ?_)
      refine R_ild kC9 rfl hst (k := 5 * a + p) (show nI 5 * nI a + nI p = _ by rw [pk_mul, nI_add]) (by omega) (by decide) ?_
      rw [ea.1]
      repeat (refine R_s kC9 rfl rfl ?_)
      refine R_get kC9 rfl (ho) rfl ?_
      repeat (refine R_s kC9 rfl rfl ?_)
      refine R_ild kC9 rfl hst (k := 5 * b + p) (show nI 5 * nI b + nI p = _ by rw [pk_mul, nI_add]) (by omega) (by decide) ?_
      rw [eb.1]
      refine R_eq kC9 rfl rfl rfl ea.2 eb.2 (fun q => ?_) (fun q => ?_)
      · rw [if_pos q]
        repeat (refine R_s kC9 rfl rfl ?_)
        refine R_g kC9 rfl ?_
        refine (show R d 196 2 [some (.ref 76), some (.int (nI a)), some (.int (nI b)), some (.int (nI p + nI 1))] [] h _ from ?_)
        rw [nI_add]
        exact ih (p + 1) (by omega)
      · rw [if_neg q]
        repeat (refine R_s kC9 rfl rfl ?_)
        refine R_get kC9 rfl (ho) rfl ?_
        repeat (refine R_s kC9 rfl rfl ?_)
        refine R_ild kC9 rfl hst (k := 5 * a + p) (show nI 5 * nI a + nI p = _ by rw [pk_mul, nI_add]) (by omega) (by decide) ?_
        rw [ea.1]
        repeat (refine R_s kC9 rfl rfl ?_)
        refine R_get kC9 rfl (ho) rfl ?_
        repeat (refine R_s kC9 rfl rfl ?_)
        refine R_ild kC9 rfl hst (k := 5 * b + p) (show nI 5 * nI b + nI p = _ by rw [pk_mul, nI_add]) (by omega) (by decide) ?_
        rw [eb.1]
        refine R_ge kC9 rfl rfl rfl ea.2 eb.2 (fun q2 => ?_) (fun q2 => ?_)
        · rw [decide_eq_false (by omega)]
          repeat (refine R_s kC9 rfl rfl ?_)
          exact R_rz kC9 rfl (Or.inl rfl) ⟨rfl, rfl⟩
        · rw [decide_eq_true q2]
          repeat (refine R_s kC9 rfl rfl ?_)
          refine R_g kC9 rfl ?_
          exact R_rz kC9 rfl (Or.inr rfl) ⟨rfl, rfl⟩
theorem sp_MO_isAhead (d : Nat) (ho : h.2 76 = mob k fed pl le fi co) (hg : h.2 77 = ints 106 G) (hn : n ≤ 5) (h0 : G 0 = nI n) (hst : h.2 86 = ints 600 St) {a b : Nat} (ha : a < 120) (hb : b < 120) {x y : Nat → Nat} (hx : ∀ p, p < 5 → St (5 * a + p) = nI (x p) ∧ x p < 2 ^ 31) (hy : ∀ p, p < 5 → St (5 * b + p) = nI (y p) ∧ y p < 2 ^ 31) : Cl d 196 [.ref 76, .int (nI a), .int (nI b)] h (some (.int (b2i (ahF x y n 0)))) h := by
  have kC9 := co_MO_isAhead
  refine Cl_of kC9 rfl rfl ?_
  iterate 2 (refine R_s kC9 rfl rfl ?_)
  exact lp_isAhead d ho hg hn h0 hst ha hb hx hy n 0 (by omega)
def swS (St : Nat → Int32) (a b : Nat) : Nat → Int32 := fun q => if 5 * a ≤ q ∧ q < 5 * a + 5 then St (5 * b + (q - 5 * a)) else if 5 * b ≤ q ∧ q < 5 * b + 5 then St (5 * a + (q - 5 * b)) else St q
def swC (C : Nat → Int32) (a b : Nat) : Nat → Int32 := upd (upd C a (C b)) b (C a)
theorem lp_changes (d : Nat) (ho : h.2 76 = mob k fed pl le fi co) {a b : Nat} (ha : a < 120) (hb : b < 120) (hab : a ≠ b) : ∀ (m p : Nat) (St' : Nat → Int32) (w3 : Option Value), p + m = 5 → (∀ q, St' q = if 5 * a ≤ q ∧ q < 5 * a + p then St (5 * b + (q - 5 * a)) else if 5 * b ≤ q ∧ q < 5 * b + p then St (5 * a + (q - 5 * b)) else St q) → R d 197 20 [some (.ref 76), some (.int (nI a)), some (.int (nI b)), w3, some (.int (nI p))] [] (upH h 86 (ints 600 St')) (fun r2 h2 => r2 = none ∧ h2 = upH h 86 (ints 600 (swS St a b))) := by
  have kC9 := co_MO_changes
  intro m
  induction m with
  | zero =>
    intro p St' w3 hp hS'
    repeat (refine R_s kC9 rfl rfl ?_)
    refine R_ge kC9 rfl (rfl) (rfl) (by omega) (by omega) (fun hc => ?_) (fun hc => ?_)
    · have : p = 5 := by omega
      subst this
      have e : St' = swS St a b := funext hS'
      rw [e]
      exact R_rv kC9 rfl ⟨rfl, rfl⟩
    · omega
  | succ m ih =>
    intro p St' w3 hp hS'
    have ho' : (upH h 86 (ints 600 St')).2 76 = mob k fed pl le fi co := ho
    repeat (refine R_s kC9 rfl rfl ?_)
    refine R_ge kC9 rfl (rfl) (rfl) (by omega) (by omega) (fun hc => ?_) (fun hc => ?_)
    · omega
    · repeat (refine R_s kC9 rfl rfl ?_)
      refine R_get kC9 rfl (ho') rfl ?_
      repeat (refine R_s kC9 rfl rfl ?_)
      refine R_ild kC9 rfl (h := upH h 86 (ints 600 St')) rfl (k := 5 * a + p) (show nI 5 * nI a + nI p = _ by rw [pk_mul, nI_add]) (by omega) (by decide) ?_
      repeat (refine R_s kC9 rfl rfl ?_)
      refine R_get kC9 rfl (ho') rfl ?_
      repeat (refine R_s kC9 rfl rfl ?_)
      refine R_get kC9 rfl (ho') rfl ?_
      repeat (refine R_s kC9 rfl rfl ?_)
      refine R_ild kC9 rfl (h := upH h 86 (ints 600 St')) rfl (k := 5 * b + p) (show nI 5 * nI b + nI p = _ by rw [pk_mul, nI_add]) (by omega) (by decide) ?_
      refine R_ist kC9 rfl (h := upH h 86 (ints 600 St')) rfl (by decide) (k := 5 * a + p) (show nI 5 * nI a + nI p = _ by rw [pk_mul, nI_add]) (by omega) (by decide) ?_
      rw [upH_upH]
      repeat (refine R_s kC9 rfl rfl ?_)
      refine R_get kC9 rfl (show (upH h 86 (ints 600 (upd St' (5 * a + p) (St' (5 * b + p))))).2 76 = mob k fed pl le fi co from ho) rfl ?_
      repeat (refine R_s kC9 rfl rfl ?_)
      refine R_ist kC9 rfl (h := upH h 86 (ints 600 (upd St' (5 * a + p) (St' (5 * b + p))))) rfl (by decide) (k := 5 * b + p) (show nI 5 * nI b + nI p = _ by rw [pk_mul, nI_add]) (by omega) (by decide) ?_
      rw [upH_upH]
      repeat (refine R_s kC9 rfl rfl ?_)
      refine R_g kC9 rfl ?_
      refine (show R d 197 20 [some (.ref 76), some (.int (nI a)), some (.int (nI b)), some (.int (St' (5 * a + p))), some (.int (nI p + nI 1))] [] (upH h 86 (ints 600 (upd (upd St' (5 * a + p) (St' (5 * b + p))) (5 * b + p) (St' (5 * a + p))))) _ from ?_)
      rw [nI_add]
      refine ih (p + 1) _ _ (by omega) (fun q => ?_)
      have eA : St' (5 * a + p) = St (5 * a + p) := by rw [hS', if_neg (by omega), if_neg (by omega)]
      have eB : St' (5 * b + p) = St (5 * b + p) := by rw [hS', if_neg (by omega), if_neg (by omega)]
      by_cases e1 : q = 5 * b + p
      · subst e1
        rw [pk_us, eA, if_neg (by omega), if_pos (by omega)]
        congr 1; omega
      · rw [pk_un e1]
        by_cases e2 : q = 5 * a + p
        · subst e2
          rw [pk_us, eB, if_pos (by omega)]
          congr 1; omega
        · rw [pk_un e2, hS']
          by_cases c1 : 5 * a ≤ q ∧ q < 5 * a + p
          · rw [if_pos c1, if_pos (by omega)]
          · rw [if_neg c1, if_neg (by omega : ¬ (5 * a ≤ q ∧ q < 5 * a + (p + 1)))]
            by_cases c2 : 5 * b ≤ q ∧ q < 5 * b + p
            · rw [if_pos c2, if_pos (by omega)]
            · rw [if_neg c2, if_neg (by omega)]
theorem sp_MO_changes (d : Nat) (ho : h.2 76 = mob k fed pl le fi co) (hC : h.2 85 = ints 120 C) (hst : h.2 86 = ints 600 St) {a b : Nat} (ha : a < 120) (hb : b < 120) (hab : a ≠ b) : Cl d 197 [.ref 76, .int (nI a), .int (nI b)] h none (upH (upH h 85 (ints 120 (swC C a b))) 86 (ints 600 (swS St a b))) := by
  have kC9 := co_MO_changes
  refine Cl_of kC9 rfl rfl ?_
  repeat (refine R_s kC9 rfl rfl ?_)
  refine R_get kC9 rfl (ho) rfl ?_
  repeat (refine R_s kC9 rfl rfl ?_)
  refine R_ild kC9 rfl (hC) (rfl) (ha) (by decide) ?_
  repeat (refine R_s kC9 rfl rfl ?_)
  refine R_get kC9 rfl (ho) rfl ?_
  repeat (refine R_s kC9 rfl rfl ?_)
  refine R_get kC9 rfl (ho) rfl ?_
  repeat (refine R_s kC9 rfl rfl ?_)
  refine R_ild kC9 rfl (hC) (rfl) (hb) (by decide) ?_
  refine R_ist kC9 rfl (hC) (by decide) (rfl) (ha) (by decide) ?_
  repeat (refine R_s kC9 rfl rfl ?_)
  refine R_get kC9 rfl (show (upH h 85 (ints 120 (upd C a (C b)))).2 76 = mob k fed pl le fi co from ho) rfl ?_
  repeat (refine R_s kC9 rfl rfl ?_)
  refine R_ist kC9 rfl (h := upH h 85 (ints 120 (upd C a (C b)))) rfl (by decide) (k := b) rfl hb (by decide) ?_
  rw [upH_upH]
  iterate 2 (refine R_s kC9 rfl rfl ?_)
  have key := lp_changes (h := upH h 85 (ints 120 (swC C a b))) (St := St) d ho ha hb hab 5 0 St (some (.int (C a))) (by omega) (fun q => by rw [if_neg (by omega), if_neg (by omega)])
  rw [upH_self (show (upH h 85 (ints 120 (swC C a b))).2 86 = ints 600 St from hst)] at key
  exact key
theorem lp_setOf (d : Nat) (ho : h.2 76 = mob k fed pl le fi co) (hC : h.2 85 = ints 120 C) {c : Nat} (hc120 : c < 120) (v : Int32) : ∀ (m s i : Nat), s + m = 32 → i < 2 ^ 31 → R d 198 4 [some (.ref 76), some (.int (nI c)), some (.int v), some (.int (nI i)), some (.int (nI s))] [] h (fun r2 h2 => r2 = some (.int (nthF (bt (C c)) m s i)) ∧ h2 = h) := by
  have kC9 := co_MO_setOf
  intro m
  induction m with
  | zero =>
    intro s i hs hi
    have : s = 32 := by omega
    subst this
    repeat (refine R_s kC9 rfl rfl ?_)
    refine R_ge kC9 rfl (rfl) (rfl) (by omega) (by omega) (fun hc => ?_) (fun hc => ?_)
    · repeat (refine R_s kC9 rfl rfl ?_)
      exact R_ri kC9 rfl ⟨rfl, rfl⟩
    · omega
  | succ m ih =>
    intro s i hs hi
    rw [nthF_succ]
    have goon : ∀ (j : Nat) (v2 : Int32), v2 = nI j → j < 2 ^ 31 → R d 198 22 [some (.ref 76), some (.int (nI c)), some (.int v), some (.int v2), some (.int (nI s))] [] h (fun r2 h2 => r2 = some (.int (nthF (bt (C c)) m (s + 1) j)) ∧ h2 = h) := by
      intro j v2 e hj
      subst e
      repeat (refine R_s kC9 rfl rfl ?_)
      refine R_g kC9 rfl ?_
      refine (show R d 198 4 [some (.ref 76), some (.int (nI c)), some (.int v), some (.int (nI j)), some (.int (nI s + nI 1))] [] h _ from ?_)
      rw [nI_add]
      exact ih (s + 1) j (by omega) hj
    repeat (refine R_s kC9 rfl rfl ?_)
    refine R_ge kC9 rfl (rfl) (rfl) (by omega) (by omega) (fun hc => ?_) (fun hc => ?_)
    · omega
    · repeat (refine R_s kC9 rfl rfl ?_)
      refine R_get kC9 rfl (ho) rfl ?_
      repeat (refine R_s kC9 rfl rfl ?_)
      refine R_ild kC9 rfl (hC) (rfl) (hc120) (by decide) ?_
      repeat (refine R_s kC9 rfl rfl ?_)
      refine (show R d 198 16 _ [.int (nI 1), .int ((C c >>> (nI s &&& 31)) &&& nI 1)] h _ from ?_)
      rw [shr_bt (by omega), b2i_nI (bt (C c) s)]
      refine R_ne kC9 rfl rfl rfl (by cases bt (C c) s <;> decide) (by decide) (fun hd => ?_) (fun hd => ?_)
      · rw [if_neg (by rw [(b2i_ne1 _).mp hd]; decide)]
        exact goon i _ rfl hi
      · have hb : bt (C c) s = true := by cases hq : bt (C c) s with | true => rfl | false => rw [hq] at hd; cases hd
        rw [if_pos hb]
        repeat (refine R_s kC9 rfl rfl ?_)
        refine Z_ne kC9 rfl rfl (by omega) (fun h0 => ?_) (fun h0 => ?_)
        · rw [if_neg h0]
          iterate 1 (refine R_s kC9 rfl rfl ?_)
          exact goon (i - 1) _ (nI_dec (by omega)) (by omega)
        · rw [if_pos h0]
          repeat (refine R_s kC9 rfl rfl ?_)
          exact R_ri kC9 rfl ⟨rfl, rfl⟩
theorem sp_MO_setOf (d : Nat) (ho : h.2 76 = mob k fed pl le fi co) (hC : h.2 85 = ints 120 C) {c i : Nat} (hc120 : c < 120) (hi : i < 2 ^ 31) : Cl d 198 [.ref 76, .int (nI c), .int (nI i)] h (some (.int (nthF (bt (C c)) 31 1 i))) h := by
  have kC9 := co_MO_setOf
  refine Cl_of kC9 rfl rfl ?_
  iterate 4 (refine R_s kC9 rfl rfl ?_)
  exact lp_setOf d ho hC hc120 _ 31 1 i (by omega) hi
theorem lp_flipOf (d : Nat) {L : List Int32} (hL : L.length ≤ 120) (ho : h.2 76 = mob k fed pl le fi (nI L.length)) (hC : h.2 85 = ints 120 C) (hLC : ∀ i x, L[i]? = some x → C i = x) {c : Nat} (hc120 : c < 120) (v rest : Int32) : ∀ (m o : Nat), o + m = L.length → R d 199 16 [some (.ref 76), some (.int (nI c)), some (.int v), some (.int rest), some (.int (nI o))] [] h (fun r2 h2 => r2 = some (.int (optI (flF rest c (L.drop o) o))) ∧ h2 = h) := by
  have kC9 := co_MO_flipOf
  intro m
  induction m with
  | zero =>
    intro o hoo
    rw [List.drop_eq_nil_of_le (by omega)]
    repeat (refine R_s kC9 rfl rfl ?_)
    refine R_get kC9 rfl (ho) rfl ?_
    refine R_ge kC9 rfl (rfl) (rfl) (by omega) (by omega) (fun hc => ?_) (fun hc => ?_)
    · repeat (refine R_s kC9 rfl rfl ?_)
      exact R_ri kC9 rfl ⟨rfl, rfl⟩
    · omega
  | succ m ih =>
    intro o hoo
    repeat (refine R_s kC9 rfl rfl ?_)
    refine R_get kC9 rfl (ho) rfl ?_
    refine R_ge kC9 rfl (rfl) (rfl) (by omega) (by omega) (fun hc => ?_) (fun hc => ?_)
    · omega
    · obtain ⟨x, hx⟩ : ∃ x, L[o]? = some x := ⟨L[o], List.getElem?_eq_getElem hc⟩
      rw [drop_cons hx, flF_cons]
      have goon : R d 199 33 [some (.ref 76), some (.int (nI c)), some (.int v), some (.int rest), some (.int (nI o))] [] h (fun r2 h2 => r2 = some (.int (optI (flF rest c (L.drop (o + 1)) (o + 1)))) ∧ h2 = h) := by
        repeat (refine R_s kC9 rfl rfl ?_)
        refine R_g kC9 rfl ?_
        refine (show R d 199 16 [some (.ref 76), some (.int (nI c)), some (.int v), some (.int rest), some (.int (nI o + nI 1))] [] h _ from ?_)
        rw [nI_add]
        exact ih (o + 1) (by omega)
      repeat (refine R_s kC9 rfl rfl ?_)
      refine R_eq kC9 rfl rfl rfl (by omega) (by omega) (fun q => ?_) (fun q => ?_)
      · rw [if_neg (fun z => z.1 q)]
        exact goon
      · repeat (refine R_s kC9 rfl rfl ?_)
        refine R_get kC9 rfl (ho) rfl ?_
        repeat (refine R_s kC9 rfl rfl ?_)
        refine R_ild kC9 rfl (hC) (rfl) (by omega) (by decide) ?_
        rw [hLC o x hx]
        repeat (refine R_s kC9 rfl rfl ?_)
        refine Rr_ne kC9 rfl (fun q2 => ?_) (fun q2 => ?_)
        · rw [if_neg (fun z => q2 z.2)]
          exact goon
        · rw [if_pos ⟨q, q2⟩]
          repeat (refine R_s kC9 rfl rfl ?_)
          exact R_ri kC9 rfl ⟨rfl, rfl⟩
theorem sp_MO_flipOf (d : Nat) {L : List Int32} (hL : L.length ≤ 120) (ho : h.2 76 = mob k fed pl le fi (nI L.length)) (hC : h.2 85 = ints 120 C) (hLC : ∀ i x, L[i]? = some x → C i = x) {c i s : Nat} (hc : c < L.length) (hi : i < 2 ^ 31) (hs : nthF (bt (L.getD c 0)) 31 1 i = nI s) : Cl (d + 1) 199 [.ref 76, .int (nI c), .int (nI i)] h (some (.int (optI (flF (restM (L.getD c 0) s) c L 0)))) h := by
  have kC9 := co_MO_flipOf
  refine Cl_of kC9 rfl rfl ?_
  have e : C c = L.getD c 0 := by rw [List.getD_eq_getElem?_getD, List.getElem?_eq_getElem hc]; exact hLC c _ (List.getElem?_eq_getElem hc)
  repeat (refine R_s kC9 rfl rfl ?_)
  refine R_get kC9 rfl (ho) rfl ?_
  repeat (refine R_s kC9 rfl rfl ?_)
  refine R_ild kC9 rfl (hC) (rfl) (by omega) (by decide) ?_
  rw [e]
  repeat (refine R_s kC9 rfl rfl ?_)
  refine R_cv kC9 rfl rfl rfl rfl (ho) (by decide) (sp_MO_setOf d ho hC (by omega) hi) ?_
  rw [e, hs]
  iterate 7 (refine R_s kC9 rfl rfl ?_)
  refine (show R (d + 1) 199 16 [some (.ref 76), some (.int (nI c)), some (.int (nI i)), some (.int (restM (L.getD c 0) s)), some (.int (nI 0))] [] h _ from ?_)
  exact lp_flipOf (d + 1) hL ho hC hLC (by omega) _ _ L.length 0 (by omega)
theorem lp_isLast (d : Nat) (ho : h.2 76 = mob k fed pl le fi co) (hg : h.2 77 = ints 106 G) {La : Nat → Int32} : ∀ (m i : Nat) (La' : Nat → Int32) (b : Bool), i + m = 33 → (∀ q, q < i → La' q = G q) → (∀ q, i ≤ q → La' q = La q) → (b = true ↔ ∀ q, q < i → La q = G q) → R d 200 4 [some (.ref 76), some (.int (b2i b)), some (.int (nI i))] [] (upH h 83 (ints 33 La')) (fun r2 h2 => ∃ La2, (∀ q, q < 33 → La2 q = G q) ∧ r2 = some (.int (b2i (pb (∀ q, q < 33 → La q = G q)))) ∧ h2 = upH h 83 (ints 33 La2)) := by
  have kC9 := co_MO_isLast
  intro m
  induction m with
  | zero =>
    intro i La' b hi h1 h2 hb
    repeat (refine R_s kC9 rfl rfl ?_)
    refine R_ge kC9 rfl (rfl) (rfl) (by omega) (by omega) (fun hc => ?_) (fun hc => ?_)
    · have : i = 33 := by omega
      subst this
      repeat (refine R_s kC9 rfl rfl ?_)
      have e : b = pb (∀ q, q < 33 → La q = G q) := by
        cases b with
        | true => exact (pb_true.mpr (hb.mp rfl)).symm
        | false => exact (pb_false.mpr (fun q => by have := hb.mpr q; cases this)).symm
      rw [e]
      exact R_rb kC9 rfl ⟨La', h1, rfl, rfl⟩
    · omega
  | succ m ih =>
    intro i La' b hi h1 h2 hb
    have ho' : (upH h 83 (ints 33 La')).2 76 = mob k fed pl le fi co := ho
    have hg' : (upH h 83 (ints 33 La')).2 77 = ints 106 G := hg
    have goon : ∀ c : Bool, (c = true ↔ La i = G i) → R d 200 20 [some (.ref 76), some (.int (b2i b)), some (.int (nI i))] [.int (b2i c), .int (b2i b)] (upH h 83 (ints 33 La')) (fun r2 h2 => ∃ La2, (∀ q, q < 33 → La2 q = G q) ∧ r2 = some (.int (b2i (pb (∀ q, q < 33 → La q = G q)))) ∧ h2 = upH h 83 (ints 33 La2)) := by
      intro c hc
      iterate 1 (refine R_s kC9 rfl rfl ?_)
      refine (show R d 200 21 _ [.int (b2i b &&& b2i c)] _ _ from ?_)
      rw [b2i_and]
      repeat (refine R_s kC9 rfl rfl ?_)
      refine R_get kC9 rfl (ho') rfl ?_
      repeat (refine R_s kC9 rfl rfl ?_)
      refine R_get kC9 rfl (ho') rfl ?_
      repeat (refine R_s kC9 rfl rfl ?_)
      refine R_ild kC9 rfl (hg') (rfl) (by omega) (by decide) ?_
      refine R_ist kC9 rfl (h := upH h 83 (ints 33 La')) rfl (by decide) (k := i) rfl (by omega) (by decide) ?_
      rw [upH_upH]
      repeat (refine R_s kC9 rfl rfl ?_)
      refine R_g kC9 rfl ?_
      refine (show R d 200 4 [some (.ref 76), some (.int (b2i (b && c))), some (.int (nI i + nI 1))] [] (upH h 83 (ints 33 (upd La' i (G i)))) _ from ?_)
      rw [nI_add]
      refine ih (i + 1) _ _ (by omega) (fun q hq => ?_) (fun q hq => by rw [pk_un (by omega)]; exact h2 q (by omega)) ?_
      · by_cases e : q = i
        · subst e; rw [pk_us]
        · rw [pk_un e]; exact h1 q (by omega)
      · rw [Bool.and_eq_true, hb, hc]
        constructor
        · rintro ⟨x1, x2⟩ q hq
          by_cases e : q = i
          · subst e; exact x2
          · exact x1 q (by omega)
        · intro x
          exact ⟨fun q hq => x q (by omega), x i (by omega)⟩
    repeat (refine R_s kC9 rfl rfl ?_)
    refine R_ge kC9 rfl (rfl) (rfl) (by omega) (by omega) (fun hc => ?_) (fun hc => ?_)
    · omega
    · repeat (refine R_s kC9 rfl rfl ?_)
      refine R_get kC9 rfl (ho') rfl ?_
      repeat (refine R_s kC9 rfl rfl ?_)
      refine R_ild kC9 rfl (h := upH h 83 (ints 33 La')) rfl (k := i) rfl (by omega) (by decide) ?_
      rw [h2 i (Nat.le_refl _)]
      repeat (refine R_s kC9 rfl rfl ?_)
      refine R_get kC9 rfl (ho') rfl ?_
      repeat (refine R_s kC9 rfl rfl ?_)
      refine R_ild kC9 rfl (hg') (rfl) (by omega) (by decide) ?_
      refine Rr_ne kC9 rfl (fun q => ?_) (fun q => ?_)
      · iterate 1 (refine R_s kC9 rfl rfl ?_)
        exact goon false ⟨fun z => (by cases z), fun z => absurd z q⟩
      · iterate 1 (refine R_s kC9 rfl rfl ?_)
        refine R_g kC9 rfl ?_
        exact goon true ⟨fun _ => q, fun _ => rfl⟩
theorem sp_MO_isLast (d : Nat) (ho : h.2 76 = mob k fed pl le fi co) (hg : h.2 77 = ints 106 G) {La : Nat → Int32} (hla : h.2 83 = ints 33 La) : ∃ La2, (∀ q, q < 33 → La2 q = G q) ∧ Cl d 200 [.ref 76] h (some (.int (b2i (pb (∀ q, q < 33 → La q = G q))))) (upH h 83 (ints 33 La2)) := by
  have kC9 := co_MO_isLast
  refine Cl_ex (f := fun _ => some (.int (b2i (pb (∀ q, q < 33 → La q = G q))))) (g := fun La2 => upH h 83 (ints 33 La2)) kC9 rfl rfl ?_
  iterate 4 (refine R_s kC9 rfl rfl ?_)
  have key := lp_isLast (h := h) (La := La) d ho hg 33 0 La true (by omega) (fun q hq => by omega) (fun q _ => rfl) ⟨fun _ q hq => by omega, fun _ => rfl⟩
  rw [upH_self hla] at key
  exact key
end
