/-! THE CLASS, 34: NestedBodies: leads -/
/-- the points that m digits of t tell, the highest first -/
def dgL : Nat → Nat → List Nat
  | 0, _ => []
  | m + 1, t => dgL m (t / 10) ++ [t % 10 - 1]
def dgOk (n : Nat) : Nat → Nat → Prop
  | 0, _ => True
  | m + 1, t => 1 ≤ t % 10 ∧ t % 10 ≤ n ∧ dgOk n m (t / 10)
theorem dgL_succ (m t : Nat) : dgL (m + 1) t = dgL m (t / 10) ++ [t % 10 - 1] := rfl
theorem dgOk_succ (n m t : Nat) : dgOk n (m + 1) t ↔ 1 ≤ t % 10 ∧ t % 10 ≤ n ∧ dgOk n m (t / 10) := Iff.rfl
theorem ldD_eq (n : Nat) : ∀ (m t : Nat) (acc : List Nat), acc.Nodup → ldD n m t acc = if pb (t < 10 ^ m ∧ dgOk n m t ∧ (dgL m t ++ acc).Nodup) = true then some (dgL m t ++ acc) else none
  | 0, t, acc, ha => by
    show (if t = 0 then some acc else none) = _
    by_cases e : t = 0
    · subst e
      rw [if_pos rfl, if_pos (by rw [pb_true]; exact ⟨by omega, trivial, ha⟩)]
      rfl
    · rw [if_neg e, if_neg (by rw [pb_true]; intro z; have := z.1; simp at this; omega)]
  | m + 1, t, acc, ha => by
    show (if 1 ≤ t % 10 ∧ t % 10 ≤ n ∧ ¬ (t % 10 - 1) ∈ acc then ldD n m (t / 10) ((t % 10 - 1) :: acc) else none) = _
    have el : dgL (m + 1) t ++ acc = dgL m (t / 10) ++ (t % 10 - 1) :: acc := by rw [dgL_succ, List.append_assoc]; rfl
    rw [el]
    by_cases c : 1 ≤ t % 10 ∧ t % 10 ≤ n ∧ ¬ (t % 10 - 1) ∈ acc
    · rw [if_pos c, ldD_eq n m (t / 10) _ (List.nodup_cons.mpr ⟨c.2.2, ha⟩)]
      have e : (t / 10 < 10 ^ m ∧ dgOk n m (t / 10) ∧ (dgL m (t / 10) ++ (t % 10 - 1) :: acc).Nodup) ↔ (t < 10 ^ (m + 1) ∧ dgOk n (m + 1) t ∧ (dgL m (t / 10) ++ (t % 10 - 1) :: acc).Nodup) := by
        rw [dgOk_succ, Nat.pow_succ]
        constructor
        · rintro ⟨a, b, c'⟩
          exact ⟨by omega, ⟨c.1, c.2.1, b⟩, c'⟩
        · rintro ⟨a, b, c'⟩
          exact ⟨by omega, b.2.2, c'⟩
      by_cases z : t / 10 < 10 ^ m ∧ dgOk n m (t / 10) ∧ (dgL m (t / 10) ++ (t % 10 - 1) :: acc).Nodup
      · rw [if_pos (by rw [pb_true]; exact z), if_pos (by rw [pb_true]; exact e.mp z)]
      · rw [if_neg (by rw [pb_true]; exact z), if_neg (by rw [pb_true]; exact fun q => z (e.mpr q))]
    · rw [if_neg c, if_neg (by
        rw [pb_true]
        rintro ⟨a, b, c'⟩
        rw [dgOk_succ] at b
        apply c
        refine ⟨b.1, b.2.1, fun hm => ?_⟩
        have := (List.nodup_append.mp c').2.1
        exact (List.nodup_cons.mp this).1 hm)]
/-- the same from the top -/
theorem dgL_top : ∀ (m t : Nat), dgL (m + 1) t = (t / 10 ^ m % 10 - 1) :: dgL m (t % 10 ^ m)
  | 0, t => by
    show [] ++ [t % 10 - 1] = _
    rw [Nat.pow_zero, Nat.div_one]
    rfl
  | m + 1, t => by
    rw [dgL_succ, dgL_top m (t / 10), dgL_succ m, List.cons_append]
    congr 1
    · rw [Nat.div_div_eq_div_mul, Nat.pow_succ, Nat.mul_comm]
    · congr 1
      · congr 1
        rw [Nat.pow_succ, Nat.mul_comm, Nat.mod_mul_right_div_self]
      · congr 2
        rw [Nat.pow_succ, Nat.mul_comm, Nat.mod_mul_right_mod]
theorem dgOk_top (n : Nat) : ∀ (m t : Nat), dgOk n (m + 1) t ↔ 1 ≤ t / 10 ^ m % 10 ∧ t / 10 ^ m % 10 ≤ n ∧ dgOk n m (t % 10 ^ m)
  | 0, t => by
    rw [dgOk_succ, Nat.pow_zero, Nat.div_one]
    exact Iff.rfl
  | m + 1, t => by
    rw [dgOk_succ, dgOk_top n m (t / 10), dgOk_succ n m]
    have e1 : t / 10 / 10 ^ m = t / 10 ^ (m + 1) := by rw [Nat.div_div_eq_div_mul, Nat.pow_succ, Nat.mul_comm]
    have e2 : t % 10 ^ (m + 1) / 10 = t / 10 % 10 ^ m := by rw [Nat.pow_succ, Nat.mul_comm, Nat.mod_mul_right_div_self]
    have e3 : t % 10 ^ (m + 1) % 10 = t % 10 := by rw [Nat.pow_succ, Nat.mul_comm, Nat.mod_mul_right_mod]
    rw [e1, e2, e3]
    constructor
    · rintro ⟨a, b, c, d, e⟩; exact ⟨c, d, a, b, e⟩
    · rintro ⟨a, b, c, d, e⟩; exact ⟨c, d, a, b, e⟩
theorem pk_tb (r : Nat → Nat) (hr : ∀ p, r p < 32) : ∀ n i, (pkN r n).testBit i = (decide (i < 5 * n) && (r (n - 1 - i / 5)).testBit (i % 5))
  | 0, i => by
    show (0 : Nat).testBit i = _
    rw [Nat.zero_testBit]
    simp
  | n + 1, i => by
    rw [pkN_succ, show 32 = 2 ^ 5 by rfl, Nat.testBit_two_pow_mul_add _ (hr n)]
    by_cases c : i < 5
    · rw [if_pos c, decide_eq_true (show i < 5 * (n + 1) by omega), Bool.true_and, show n + 1 - 1 - i / 5 = n by omega, show i % 5 = i by omega]
    · rw [if_neg c, pk_tb r hr n (i - 5), show (decide (i - 5 < 5 * n)) = decide (i < 5 * (n + 1)) by congr 1; apply propext; omega, show n + 1 - 1 - i / 5 = n - 1 - (i - 5) / 5 by omega, show (i - 5) % 5 = i % 5 by omega]
theorem pk_put {r : Nat → Nat} (hr : ∀ p, r p < 32) {n p c : Nat} (hp : p < n) (hc : c < 32) (h0 : r p = 0) : pkN r n ||| c <<< (5 * (n - 1 - p)) = pkN (fun q => if q = p then c else r q) n := by
  apply Nat.eq_of_testBit_eq
  intro i
  rw [Nat.testBit_or, pk_tb r hr, pk_tb (fun q => if q = p then c else r q) (fun q => by split; exact hc; exact hr q), Nat.testBit_shiftLeft]
  by_cases e : n - 1 - i / 5 = p ∧ i < 5 * n
  · obtain ⟨e1, e2⟩ := e
    rw [e1, h0, if_pos rfl, decide_eq_true e2, Nat.zero_testBit, decide_eq_true (show i ≥ 5 * (n - 1 - p) by omega), show i - 5 * (n - 1 - p) = i % 5 by omega]
    simp
  · have z : (decide (i ≥ 5 * (n - 1 - p)) && c.testBit (i - 5 * (n - 1 - p))) = false := by
      by_cases g : i ≥ 5 * (n - 1 - p)
      · rw [Nat.testBit_lt_two_pow (Nat.lt_of_lt_of_le hc (Nat.pow_le_pow_right (n := 2) (by omega) (show 5 ≤ i - 5 * (n - 1 - p) by omega))), Bool.and_false]
      · rw [decide_eq_false g, Bool.false_and]
    rw [z, Bool.or_false]
    by_cases g : i < 5 * n
    · rw [if_neg (fun q => e ⟨q, g⟩)]
    · rw [decide_eq_false g]; rfl
/-- sets that have none of a row of points -/
def unM (S : Int32) (acc : List Nat) : Int32 := maskOf (fun s => bt S s && acc.all (fun p => !s.testBit p))
def ctP (S : Int32) (acc : List Nat) (p : Nat) : Nat := cnt (fun s => bt S s && (acc.all (fun q => !s.testBit q) && s.testBit p)) 32
theorem ctP_eq {S : Int32} {acc rest : List Nat} {p : Nat} (hp : p ∉ acc) : ctP S acc p = cntO S (acc ++ p :: rest) p := by
  unfold ctP cntO
  apply cnt_congr
  intro s _
  unfold ctB fstP
  congr 1
  rw [List.find?_append]
  cases hf : acc.find? (fun p => s.testBit p) with
  | some q =>
    have hq := List.find?_some hf
    have hm := List.mem_of_find?_eq_some hf
    have e1 : acc.all (fun q => !s.testBit q) = false := by
      rw [List.all_eq_false]
      exact ⟨q, hm, by simp [hq]⟩
    rw [e1, Bool.false_and]
    symm
    apply decide_eq_false
    intro z
    simp at z
    exact hp (z ▸ hm)
  | none =>
    have e1 : acc.all (fun q => !s.testBit q) = true := by
      rw [List.all_eq_true]
      intro q hq
      have := List.find?_eq_none.mp hf q hq
      simpa using this
    rw [e1, Bool.true_and]
    cases hb : s.testBit p with
    | true => rw [List.find?_cons_of_pos hb]; simp
    | false =>
      rw [List.find?_cons_of_neg (by rw [hb]; decide)]
      symm
      apply decide_eq_false
      intro z
      simp at z
      have := List.find?_some z
      rw [hb] at this
      cases this
theorem cntO_lt (S : Int32) (od : List Nat) (p : Nat) : cntO S od p < 32 := by
  unfold cntO
  have e : cnt (fun _ => true) 32 = 32 := by decide
  rw [← e]
  refine cnt_lt 32 (fun i _ _ => rfl) ⟨0, by omega, rfl, ?_⟩
  unfold ctB
  have : fstP od 0 = none := by
    unfold fstP
    apply List.find?_eq_none.mpr
    intro q _
    rw [Nat.zero_testBit]; decide
  rw [this]
  simp
/-- what stands for the points told so far -/
def plF (S : Int32) (acc : List Nat) (q : Nat) : Nat := if q ∈ acc then cntO S acc q else 0
theorem plF_lt (S : Int32) (acc : List Nat) (q : Nat) : plF S acc q < 32 := by
  unfold plF
  split
  · exact cntO_lt _ _ _
  · omega
theorem cntO_app {S : Int32} {acc : List Nat} {p q : Nat} (hq : q ∈ acc) (hn : (acc ++ [p]).Nodup) : cntO S (acc ++ [p]) q = cntO S acc q := by
  unfold cntO
  apply cnt_congr
  intro s _
  unfold ctB fstP
  congr 1
  rw [List.find?_append]
  cases hf : acc.find? (fun p => s.testBit p) with
  | some u => rfl
  | none =>
    have hqp : q ≠ p := by
      intro e
      have := (List.nodup_append.mp hn).2.2 q hq p (by simp)
      exact this e
    cases hb : s.testBit p with
    | true =>
      rw [List.find?_cons_of_pos hb]
      simp [Ne.symm hqp]
    | false => rw [List.find?_cons_of_neg (by rw [hb]; decide)]; rfl
section
variable {h : AH} {o n : Nat} {S Lm : Int32}
theorem lc_place (d : Nat) (hF : FamC h o n S Lm) (hn : n ≤ 5) (h0 : h.2 0 = ints 5 havF) (h1 : h.2 1 = ints 5 tenF) (v : Int32) : ∀ (m t : Nat) (acc : List Nat) (w : Option Value), acc.length + m = n → t < 2 ^ 31 → (m = 0 → t = 0) → acc.Nodup → (∀ p ∈ acc, p < n) → (w = none ∨ ∃ x : Int32, w = some (.int x)) → R (d + 1) 56 17 [some (.ref o), some (.int v), some (.int (nI (pkN (plF S acc) n))), some (.int (nI (natM (fun p => decide (p ∈ acc)) 5))), some (.int (nI t)), some (.int (unM S acc)), some (.int (nI m + (-1))), w] [] h (fun r2 h2 => r2 = some (.int (if pb (t < 10 ^ m ∧ dgOk n m t ∧ (acc ++ dgL m t).Nodup) = true then nI (pkN (plF S (acc ++ dgL m t)) n) else -2)) ∧ h2 = h) := by
  have kC9 := co_FA_placeByOrder
  intro m
  induction m with
  | zero =>
    intro t acc w hl ht ht0 hnd hlt hw
    have t0 := ht0 rfl
    subst t0
    have e : 0 < 10 ^ 0 ∧ dgOk n 0 0 ∧ (acc ++ dgL 0 0).Nodup := ⟨by omega, trivial, by simpa [dgL] using hnd⟩
    rw [if_pos (pb_true.mpr e)]
    have e2 : acc ++ dgL 0 0 = acc := List.append_nil _
    rw [e2]
    repeat (refine R_s kC9 rfl rfl ?_)
    refine Zr_lt kC9 rfl (fun _ => ?_) (fun z => absurd (show nI 0 + (-1) < 0 by decide) z)
    repeat (refine R_s kC9 rfl rfl ?_)
    exact R_ri kC9 rfl ⟨rfl, rfl⟩
  | succ m ih =>
    intro t acc w hl ht ht0 hnd hlt hw
    have hm : m < 5 := by omega
    have h10 : (10 : Nat) ^ m < 2 ^ 31 := Nat.lt_of_le_of_lt (Nat.pow_le_pow_right (by omega) (show m ≤ 4 by omega)) (by decide)
    have p10 : 0 < 10 ^ m := Nat.pow_pos (by omega)
    have hq31 : t / 10 ^ m < 2 ^ 31 := Nat.lt_of_le_of_lt (Nat.div_le_self _ _) ht
    have ti : (nI (t / 10 ^ m) - nI 1).toInt = ((t / 10 ^ m : Nat) : Int) - 1 := sub_ti hq31 (by omega)
    have hqt : t < 10 ^ (m + 1) → t / 10 ^ m % 10 = t / 10 ^ m := by
      intro z
      rw [Nat.pow_succ] at z
      exact Nat.mod_eq_of_lt (Nat.div_lt_of_lt_mul (by rw [Nat.mul_comm] at z; omega))
    have bad : ¬ (t < 10 ^ (m + 1) ∧ dgOk n (m + 1) t ∧ (acc ++ dgL (m + 1) t).Nodup) → ∀ (w' : Option Value), R (d + 1) 56 37 [some (.ref o), some (.int v), some (.int (nI (pkN (plF S acc) n))), some (.int (nI (natM (fun p => decide (p ∈ acc)) 5))), some (.int (nI t)), some (.int (unM S acc)), some (.int (nI m)), w'] [] h (fun r2 h2 => r2 = some (.int (if pb (t < 10 ^ (m + 1) ∧ dgOk n (m + 1) t ∧ (acc ++ dgL (m + 1) t).Nodup) = true then nI (pkN (plF S (acc ++ dgL (m + 1) t)) n) else -2)) ∧ h2 = h) := by
      intro z w'
      rw [if_neg (by rw [pb_false.mpr z]; decide)]
      repeat (refine R_s kC9 rfl rfl ?_)
      exact R_ri kC9 rfl ⟨rfl, rfl⟩
    have body : R (d + 1) 56 27 [some (.ref o), some (.int v), some (.int (nI (pkN (plF S acc) n))), some (.int (nI (natM (fun p => decide (p ∈ acc)) 5))), some (.int (nI t)), some (.int (unM S acc)), some (.int (nI m)), some (.int (nI (t / 10 ^ m) - nI 1))] [] h (fun r2 h2 => r2 = some (.int (if pb (t < 10 ^ (m + 1) ∧ dgOk n (m + 1) t ∧ (acc ++ dgL (m + 1) t).Nodup) = true then nI (pkN (plF S (acc ++ dgL (m + 1) t)) n) else -2)) ∧ h2 = h) := by
      repeat (refine R_s kC9 rfl rfl ?_)
      refine R_cv kC9 rfl rfl rfl rfl hF.2 hF.1 (sp_FA_isPoint d hF hn _) ?_
      refine ZB_eq kC9 rfl (fun hd => ?_) (fun hd => ?_)
      · refine bad (fun z => ?_) _
        obtain ⟨z1, z2, -⟩ := z
        rw [dgOk_top, hqt z1] at z2
        have := of_decide_eq_false hd
        rw [ti] at this
        omega
      · have hd1 := of_decide_eq_true hd
        rw [ti] at hd1
        obtain ⟨p, hp⟩ : ∃ p, t / 10 ^ m = p + 1 := ⟨t / 10 ^ m - 1, by omega⟩
        have hpn : p < n := by omega
        rw [hp, pk_sub (by omega), show p + 1 - 1 = p by omega]
        have hq10 : t / 10 ^ m % 10 = p + 1 := by rw [hp]; omega
        have hlt1 : t < 10 ^ (m + 1) := by
          have h1 := Nat.div_add_mod t (10 ^ m)
          have h2 := Nat.mod_lt t p10
          rw [Nat.pow_succ]
          have h3 : 10 ^ m * (t / 10 ^ m) ≤ 10 ^ m * 5 := Nat.mul_le_mul_left _ (by omega)
          omega
        have edl : dgL (m + 1) t = p :: dgL m (t % 10 ^ m) := by rw [dgL_top, hq10]; rfl
        have bitp : bt (nI (natM (fun p => decide (p ∈ acc)) 5)) p = decide (p ∈ acc) := by
          rw [nI_bt p (by omega), natM_tb, decide_eq_true (show p < 5 by omega), Bool.true_and]
        repeat (refine R_s kC9 rfl rfl ?_)
        refine (show R (d + 1) 56 36 [some (.ref o), some (.int v), some (.int (nI (pkN (plF S acc) n))), some (.int (nI (natM (fun p => decide (p ∈ acc)) 5))), some (.int (nI t)), some (.int (unM S acc)), some (.int (nI m)), some (.int (nI p))] [.int ((nI (natM (fun p => decide (p ∈ acc)) 5) >>> (nI p &&& 31)) &&& nI 1)] h _ from ?_)
        rw [shr_bt (by omega), bitp]
        refine ZB_eq kC9 rfl (fun he => ?_) (fun he => ?_)
        · have hpa := of_decide_eq_false he
          have hnd2 : (acc ++ [p]).Nodup := List.nodup_append.mpr ⟨hnd, by simp, fun a ha b hb => by
            have : b = p := by simpa using hb
            rw [this]; exact fun q => hpa (q ▸ ha)⟩
          have econd : (t < 10 ^ (m + 1) ∧ dgOk n (m + 1) t ∧ (acc ++ dgL (m + 1) t).Nodup) ↔ (t % 10 ^ m < 10 ^ m ∧ dgOk n m (t % 10 ^ m) ∧ ((acc ++ [p]) ++ dgL m (t % 10 ^ m)).Nodup) := by
            rw [edl, dgOk_top, hq10, List.append_assoc]
            constructor
            · rintro ⟨a, b, c⟩; exact ⟨Nat.mod_lt t p10, b.2.2, c⟩
            · rintro ⟨a, b, c⟩; exact ⟨hlt1, ⟨by omega, by omega, b⟩, c⟩
          have eres : acc ++ dgL (m + 1) t = (acc ++ [p]) ++ dgL m (t % 10 ^ m) := by rw [edl, List.append_assoc]; rfl
          have eT : nI (natM (fun q => decide (q ∈ acc)) 5) ||| (nI 1 <<< (nI p &&& 31)) = nI (natM (fun q => decide (q ∈ acc ++ [p])) 5) := by
            rw [nI_shl (by omega), nx_or]
            congr 1
            apply Nat.eq_of_testBit_eq
            intro i
            rw [Nat.testBit_or, natM_tb, natM_tb, Nat.one_shiftLeft, Nat.testBit_two_pow]
            by_cases c : i = p
            · subst c
              rw [decide_eq_true (show i < 5 by omega)]
              simp
            · rw [decide_eq_false (show ¬ p = i from fun q => c q.symm)]
              simp [c]
          have eC : cnt (bt (unM S acc &&& havF p)) 32 = cntO S (acc ++ [p]) p := by
            rw [← ctP_eq (rest := []) hpa]
            unfold ctP
            apply cnt_congr
            intro s hs
            unfold unM
            rw [b_and, maskOf_bt _ hs, hav_bt p (by omega) s hs, Bool.and_assoc]
          have eP : nI (pkN (plF S acc) n) ||| (nI (cntO S (acc ++ [p]) p) <<< (nI (5 * (n - 1 - p)) &&& 31)) = nI (pkN (plF S (acc ++ [p])) n) := by
            rw [nI_shl (by omega), nx_or, pk_put (plF_lt S acc) hpn (cntO_lt _ _ _) (by unfold plF; rw [if_neg hpa])]
            congr 1
            apply pk_congr
            intro q _
            unfold plF
            by_cases c : q = p
            · rw [c, if_pos rfl, if_pos (by simp)]
            · rw [if_neg c]
              by_cases c2 : q ∈ acc
              · rw [if_pos c2, if_pos (List.mem_append_left _ c2), cntO_app c2 hnd2]
              · rw [if_neg c2, if_neg (by simp [c, c2])]
          have eU : unM S acc &&& (havF p ^^^ (-1)) = unM S (acc ++ [p]) := b_ext (fun s hs => by
            unfold unM
            rw [b_and, maskOf_bt _ hs, maskOf_bt _ hs, m1_xor_bt _ hs, hav_bt p (by omega) s hs, List.all_append]
            simp [Bool.and_assoc])
          have ihx := ih (t % 10 ^ m) (acc ++ [p]) (some (.int (nI p))) (by rw [List.length_append]; simp; omega) (Nat.lt_of_le_of_lt (Nat.mod_le _ _) ht) (fun z => by rw [z]; exact Nat.mod_one t) hnd2 (fun q hq => by
            rcases List.mem_append.mp hq with z | z
            · exact hlt q z
            · have : q = p := by simpa using z
              omega) (Or.inr ⟨_, rfl⟩)
          have efin : pb (t < 10 ^ (m + 1) ∧ dgOk n (m + 1) t ∧ (acc ++ dgL (m + 1) t).Nodup) = pb (t % 10 ^ m < 10 ^ m ∧ dgOk n m (t % 10 ^ m) ∧ ((acc ++ [p]) ++ dgL m (t % 10 ^ m)).Nodup) := bool_iff (by rw [pb_true, pb_true]; exact econd)
          rw [efin, eres]
          repeat (refine R_s kC9 rfl rfl ?_)
          refine R_st kC9 rfl ?_
          repeat (refine R_s kC9 rfl rfl ?_)
          refine R_ild kC9 rfl h1 (k := m) rfl hm (by omega) ?_
          rw [ten_f m hm]
          refine R_rem kC9 rfl (nI_ne0 p10 h10) ?_
          rw [pk_rem ht p10 h10]
          repeat (refine R_s kC9 rfl rfl ?_)
          refine R_st kC9 rfl ?_
          repeat (refine R_s kC9 rfl rfl ?_)
          refine R_ild kC9 rfl h0 (k := p) rfl (by omega) (by omega) ?_
          repeat (refine R_s kC9 rfl rfl ?_)
          refine R_cs kC9 rfl rfl rfl rfl (sp_JI_bitCount d h _) ?_
          rw [eC]
          repeat (refine R_s kC9 rfl rfl ?_)
          refine R_get kC9 rfl (hF.2) rfl ?_
          repeat (refine R_s kC9 rfl rfl ?_)
          refine R_st kC9 rfl ?_
          repeat (refine R_s kC9 rfl rfl ?_)
          refine R_ild kC9 rfl h0 (k := p) rfl (by omega) (by omega) ?_
          repeat (refine R_s kC9 rfl rfl ?_)
          refine R_g kC9 rfl ?_
          refine (show R (d + 1) 56 17 [some (.ref o), some (.int v), some (.int (nI (pkN (plF S acc) n) ||| (nI (cntO S (acc ++ [p]) p) <<< ((nI 5 * (nI n - nI 1 - nI p)) &&& 31)))), some (.int (nI (natM (fun q => decide (q ∈ acc)) 5) ||| (nI 1 <<< (nI p &&& 31)))), some (.int (nI (t % 10 ^ m))), some (.int (unM S acc &&& (havF p ^^^ (-1)))), some (.int (nI m + (-1))), some (.int (nI p))] [] h _ from ?_)
          rw [pk_sub (by omega), pk_sub (by omega), pk_mul, eP, eT, eU]
          exact ihx
        · refine bad (fun z => ?_) _
          rw [edl] at z
          have hpa := of_decide_eq_true he
          have := (List.nodup_append.mp z.2.2).2.2 p hpa p List.mem_cons_self
          exact this rfl
    repeat (refine R_s kC9 rfl rfl ?_)
    rw [pk_m1]
    refine Z_lt kC9 rfl rfl (by omega) (fun z => by omega) (fun _ => ?_)
    repeat (refine R_s kC9 rfl rfl ?_)
    refine R_st kC9 rfl ?_
    repeat (refine R_s kC9 rfl rfl ?_)
    refine R_ild kC9 rfl h1 (k := m) rfl hm (by omega) ?_
    rw [ten_f m hm]
    refine R_div kC9 rfl (nI_ne0 p10 h10) ?_
    rw [pk_div ht p10 h10]
    rcases hw with rfl | ⟨x, rfl⟩
    · iterate 3 (refine R_s kC9 rfl rfl ?_)
      exact body
    · iterate 3 (refine R_s kC9 rfl rfl ?_)
      exact body
theorem plF_nil (S : Int32) (n : Nat) : pkN (plF S []) n = 0 := by
  have : pkN (plF S []) n = pkN (fun _ => 0) n := pk_congr n (fun p _ => by unfold plF; rw [if_neg (by simp)])
  rw [this]
  induction n with
  | zero => rfl
  | succ n ih =>
    rw [pkN_succ]
    have := ih (pk_congr n (fun p _ => by unfold plF; rw [if_neg (by simp)]))
    omega
theorem unM_nil (S : Int32) : unM S [] = S := b_ext (fun i hi => by unfold unM; rw [maskOf_bt _ hi]; simp)
/-- where an order leads -/
noncomputable def plcR (n : Nat) (S v : Int32) : Int32 := if v < 0 then -2 else (match ldD n n v.toNatClampNeg [] with | none => -2 | some od => nI (pkN (plF S od) n))
theorem lc_neg (d : Nat) (hF : FamC h o n S Lm) (hn : n ≤ 5) (hn1 : 1 ≤ n) (h1 : h.2 1 = ints 5 tenF) {v : Int32} (hv : v < 0) (a3 a5 : Int32) : R (d + 1) 56 17 [some (.ref o), some (.int v), some (.int (nI 0)), some (.int a3), some (.int v), some (.int a5), some (.int (nI n + (-1))), none] [] h (fun r2 h2 => r2 = some (.int (-2)) ∧ h2 = h) := by
  have kC9 := co_FA_placeByOrder
  obtain ⟨m, rfl⟩ : ∃ m, n = m + 1 := ⟨n - 1, by omega⟩
  have hm : m < 5 := by omega
  have h10 : (10 : Nat) ^ m < 2 ^ 31 := Nat.lt_of_le_of_lt (Nat.pow_le_pow_right (by omega) (show m ≤ 4 by omega)) (by decide)
  have p10 : 0 < 10 ^ m := Nat.pow_pos (by omega)
  have hv1 : v.toInt < 0 := by rw [tI_lt, tI_0] at hv; exact hv
  have tq : (v / nI (10 ^ m)).toInt ≤ 0 := by
    rw [Int32.toInt_div, nI_toInt h10]
    have td : v.toInt.tdiv ((10 ^ m : Nat) : Int) = -((-v.toInt) / ((10 ^ m : Nat) : Int)) := by
      have e1 : v.toInt.tdiv ((10 ^ m : Nat) : Int) = (-(-v.toInt)).tdiv ((10 ^ m : Nat) : Int) := by rw [Int.neg_neg]
      rw [e1, Int.neg_tdiv, Int.tdiv_eq_ediv_of_nonneg (by omega)]
    rw [td]
    have b1 : 0 ≤ (-v.toInt) / ((10 ^ m : Nat) : Int) := Int.ediv_nonneg (by omega) (by omega)
    have b2 : (-v.toInt) / ((10 ^ m : Nat) : Int) ≤ -v.toInt := Int.ediv_le_self _ (by omega)
    have b3 := Int32.le_toInt v
    by_cases c : (-v.toInt) / ((10 ^ m : Nat) : Int) = 2 ^ 31
    · rw [c]; decide
    · rw [Int.bmod_eq_of_le (by omega) (by omega)]
      omega
  have tp : ptB (m + 1) (v / nI (10 ^ m) - nI 1) = false := by
    apply decide_eq_false
    have b3 := Int32.le_toInt (v / nI (10 ^ m))
    rw [Int32.toInt_sub, tI_1]
    intro z
    by_cases c : (v / nI (10 ^ m)).toInt = -2 ^ 31
    · rw [c] at z
      have : ((-2 ^ 31 : Int) - 1).bmod (2 ^ 32) = 2147483647 := by decide
      rw [this] at z
      omega
    · rw [Int.bmod_eq_of_le (by omega) (by omega)] at z
      omega
  repeat (refine R_s kC9 rfl rfl ?_)
  rw [pk_m1]
  refine Z_lt kC9 rfl rfl (by omega) (fun z => by omega) (fun _ => ?_)
  repeat (refine R_s kC9 rfl rfl ?_)
  refine R_st kC9 rfl ?_
  repeat (refine R_s kC9 rfl rfl ?_)
  refine R_ild kC9 rfl h1 (k := m) rfl hm (by omega) ?_
  rw [ten_f m hm]
  refine R_div kC9 rfl (nI_ne0 p10 h10) ?_
  repeat (refine R_s kC9 rfl rfl ?_)
  refine R_cv kC9 rfl rfl rfl rfl hF.2 hF.1 (sp_FA_isPoint d hF hn _) ?_
  refine (show R (d + 1) 56 30 _ [.int (b2i (ptB (m + 1) (v / nI (10 ^ m) - nI 1)))] h _ from ?_)
  rw [tp]
  refine ZB_eq kC9 rfl (fun _ => ?_) (fun z => by cases z)
  repeat (refine R_s kC9 rfl rfl ?_)
  exact R_ri kC9 rfl ⟨rfl, rfl⟩
theorem sp_FA_placeByOrder (d : Nat) (hF : FamC h o n S Lm) (hn : n ≤ 5) (hn1 : 1 ≤ n) (h0 : h.2 0 = ints 5 havF) (h1 : h.2 1 = ints 5 tenF) (v : Int32) : Cl (d + 1) 56 [.ref o, .int v] h (some (.int (plcR n S v))) h := by
  have kC9 := co_FA_placeByOrder
  refine Cl_of kC9 rfl rfl ?_
  repeat (refine R_s kC9 rfl rfl ?_)
  refine R_get kC9 rfl (hF.2) rfl ?_
  repeat (refine R_s kC9 rfl rfl ?_)
  refine R_get kC9 rfl (hF.2) rfl ?_
  refine R_st kC9 rfl ?_
  refine R_alen kC9 rfl h1 (by omega) ?_
  refine R_min kC9 rfl (Nat.le_of_ble_eq_true rfl) ?_
  rw [if_neg (nI_nlt hn (by omega))]
  iterate 3 (refine R_s kC9 rfl rfl ?_)
  refine (show R (d + 1) 56 17 [some (.ref o), some (.int v), some (.int (nI 0)), some (.int (nI 0)), some (.int v), some (.int S), some (.int (nI n - nI 1)), none] [] h _ from ?_)
  have en : nI n - nI 1 = nI n + (-1) := by rw [Int32.sub_eq_add_neg]; rfl
  rw [en]
  unfold plcR
  by_cases hv : v < 0
  · rw [if_pos hv]
    exact lc_neg d hF hn hn1 h1 hv (nI 0) S
  · rw [if_neg hv]
    obtain ⟨t, ht, rfl⟩ := nI_of hv
    rw [nI_clamp ht]
    have key := lc_place (S := S) d hF hn h0 h1 (nI t) n t [] none (by simp) ht (fun z => by omega) List.nodup_nil (fun p hp => by cases hp) (Or.inl rfl)
    rw [plF_nil, unM_nil] at key
    have e0 : natM (fun p => decide (p ∈ ([] : List Nat))) 5 = 0 := by decide
    rw [e0, List.nil_append] at key
    have e1 := ldD_eq n n t [] List.nodup_nil
    rw [List.append_nil] at e1
    rw [e1]
    by_cases c : t < 10 ^ n ∧ dgOk n n t ∧ (dgL n t).Nodup
    · rw [if_pos (pb_true.mpr c)] at key ⊢
      exact key
    · rw [if_neg (by rw [pb_false.mpr c]; decide)] at key ⊢
      exact key
end
theorem dgL_len : ∀ (m t : Nat), (dgL m t).length = m
  | 0, _ => rfl
  | m + 1, t => by rw [dgL_succ, List.length_append, dgL_len m]; rfl
theorem dgL_lt {n : Nat} : ∀ (m t : Nat), dgOk n m t → ∀ p ∈ dgL m t, p < n
  | 0, _, _, p, h => by cases h
  | m + 1, t, ho, p, h => by
    rw [dgOk_succ] at ho
    rw [dgL_succ] at h
    rcases List.mem_append.mp h with q | q
    · exact dgL_lt m _ ho.2.2 p q
    · have : p = t % 10 - 1 := by simpa using q
      omega
/-- a row of n unlike points below n has all of them -/
theorem full_row {n : Nat} {l : List Nat} (hl : l.length = n) (hn : l.Nodup) (hlt : ∀ p ∈ l, p < n) : ∀ p, p < n → p ∈ l := by
  intro p hp
  apply Classical.byContradiction
  intro hno
  have := nodup_lt n (p :: l) (List.nodup_cons.mpr ⟨hno, hn⟩) (fun u hu => by
    rcases List.mem_cons.mp hu with q | q
    · omega
    · exact hlt u q)
  rw [List.length_cons] at this
  omega
section
variable {h h' : AH} {U K V : US} {im : Bool} {tx : List Nat} {T : TPS}
theorem ldF_congr {P Q : Nat → Bool} : ∀ (m c : Nat), (∀ i, c ≤ i → i < c + m → P i = Q i) → ldF P m c = ldF Q m c
  | 0, _, _ => rfl
  | m + 1, c, h => by
    show (if P c = true then some c else ldF P m (c + 1)) = (if Q c = true then some c else ldF Q m (c + 1))
    rw [h c (by omega) (by omega), ldF_congr m (c + 1) (fun i h1 h2 => h i (by omega) (by omega))]
theorem nb_leads (d : Nat) (hI : NBI h U K im tx T) (hG : FG U.1 U.2.1) (v : Int32) : ∃ h', NQ h U K im tx T h' ∧ Cl (d + 10) 115 [.ref 3, .int v] h (some (.int (leadsR U.1 U.2.1 v))) h' := by
  have kC9 := co_NB_leads
  have hn := hG.1.2.1
  have hn2 := hG.1.1
  refine Cl_eH kC9 rfl rfl ?_
  have no : R (d + 10) 115 5 [some (.ref 3), some (.int v), none] [.int (-2)] h (fun r2 h' => r2 = some (.int (-2)) ∧ NQ h U K im tx T h') := by
    repeat (refine R_s kC9 rfl rfl ?_)
    refine Zr_ge kC9 rfl (fun z => absurd z (by decide)) (fun _ => ?_)
    repeat (refine R_s kC9 rfl rfl ?_)
    refine R_g kC9 rfl ?_
    exact R_ri kC9 rfl ⟨rfl, NQ.rfl' hI⟩
  repeat (refine R_s kC9 rfl rfl ?_)
  refine R_get kC9 rfl (hI.ob) rfl ?_
  refine R_get kC9 rfl (hI.st.2.1) rfl ?_
  repeat (refine R_s kC9 rfl rfl ?_)
  refine R_cv kC9 rfl rfl rfl rfl hI.st.2.2.1.2 (by omega) (sp_FA_placeByOrder (d + 8) hI.st.2.2.1 hn (by omega) hI.h0 hI.h1 v) ?_
  unfold plcR leadsR
  by_cases hv : v < 0
  · rw [if_pos hv, if_pos hv]
    exact no
  · rw [if_neg hv, if_neg hv]
    cases hl : ldD U.1 U.1 v.toNatClampNeg [] with
    | none => exact no
    | some od =>
      have e1 := ldD_eq U.1 U.1 v.toNatClampNeg [] List.nodup_nil
      rw [List.append_nil, hl] at e1
      have hc : v.toNatClampNeg < 10 ^ U.1 ∧ dgOk U.1 U.1 v.toNatClampNeg ∧ (dgL U.1 v.toNatClampNeg).Nodup := by
        apply Classical.byContradiction
        intro z
        rw [if_neg (by rw [pb_false.mpr z]; decide)] at e1
        cases e1
      rw [if_pos (pb_true.mpr hc)] at e1
      cases e1
      have hall := full_row (dgL_len U.1 v.toNatClampNeg) hc.2.2 (dgL_lt _ _ hc.2.1)
      generalize dgL U.1 v.toNatClampNeg = od at hall
      have ep : pkN (plF U.2.1 od) U.1 = pkN (cntO U.2.1 od) U.1 := pk_congr _ (fun p hp => by unfold plF; rw [if_pos (hall p hp)])
      have hl1 := pkN_lt (cntO_lt U.2.1 od) U.1
      have hl2 : 32 ^ U.1 ≤ 32 ^ 5 := Nat.pow_le_pow_right (by omega) hn
      dsimp only
      rw [ep]
      obtain ⟨b, hb⟩ := hI.bp hG
      obtain ⟨h2, q2, c2⟩ := sp_BO_cornerAt d hb (nI (pkN (cntO U.2.1 od) U.1))
      have el : ldF (fun q => decide (nI (pkN (crow U.1 U.2.1 q) U.1) = nI (pkN (cntO U.2.1 od) U.1))) (cornS U.1 U.2.1).length 0 = leadsN U.1 U.2.1 od := by
        unfold leadsN
        apply ldF_congr
        intro i _ _
        unfold ldB
        apply bool_iff
        rw [decide_eq_true_eq, pb_true, nI_eq (show pkN (crow U.1 U.2.1 i) U.1 < 2 ^ 31 from pk_31 U.1 hn U.2.1 (crL U.1 U.2.1 i)) (show pkN (cntO U.2.1 od) U.1 < 2 ^ 31 by omega)]
        constructor
        · intro z p hp; exact pk_inj (rowF_lt U.1 U.2.1 (crL U.1 U.2.1 i)) (cntO_lt U.2.1 od) U.1 z p hp
        · intro z; exact pk_congr U.1 (fun p hp => z p hp)
      rw [el] at c2
      repeat (refine R_s kC9 rfl rfl ?_)
      refine Z_ge kC9 rfl rfl (by omega) (fun _ => ?_) (fun z => by omega)
      repeat (refine R_s kC9 rfl rfl ?_)
      refine R_get kC9 rfl (hI.ob) rfl ?_
      repeat (refine R_s kC9 rfl rfl ?_)
      refine R_cv kC9 rfl rfl rfl rfl hb.1.ob (by omega) c2 ?_
      exact R_ri kC9 rfl ⟨rfl, hI.bq q2⟩
end
