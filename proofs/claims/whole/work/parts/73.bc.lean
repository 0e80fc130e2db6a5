/-! THE CLASS, 4: Integer.bitCount -/
theorem and_dig {w a b r c : Nat} (hr : r < 2 ^ w) (hc : c < 2 ^ w) : (2 ^ w * a + r) &&& (2 ^ w * b + c) = 2 ^ w * (a &&& b) + (r &&& c) := by
  apply Nat.eq_of_testBit_eq
  intro i
  rw [Nat.testBit_and, Nat.testBit_two_pow_mul_add _ hr, Nat.testBit_two_pow_mul_add _ hc, Nat.testBit_two_pow_mul_add _ (Nat.lt_of_le_of_lt Nat.and_le_left hr)]
  split <;> rw [Nat.testBit_and]
def bcM1 : Nat → Nat
  | 0 => 0
  | k + 1 => 4 * bcM1 k + 1
def bcM2 : Nat → Nat
  | 0 => 0
  | k + 1 => 16 * bcM2 k + 3
def bcP1 : Nat → Nat → Nat
  | 0, _ => 0
  | k + 1, x => 4 * bcP1 k (x / 4) + (x % 4 - x % 4 / 2)
def bcP2 : Nat → Nat → Nat
  | 0, _ => 0
  | k + 1, x => 16 * bcP2 k (x / 16) + (x % 4 + x % 16 / 4)
theorem bcP1_eq : ∀ (k x : Nat), x < 4 ^ k → (x / 2) &&& bcM1 k ≤ x ∧ bcP1 k x = x - ((x / 2) &&& bcM1 k)
  | 0, x, h => by
    have : x = 0 := by simp at h; omega
    subst this
    exact ⟨Nat.le_refl _, rfl⟩
  | k + 1, x, h => by
    obtain ⟨i1, i2⟩ := bcP1_eq k (x / 4) (by rw [Nat.pow_succ] at h; omega)
    have e : (x / 2) &&& bcM1 (k + 1) = 4 * ((x / 4 / 2) &&& bcM1 k) + x % 4 / 2 := by
      have e1 : x / 2 = 2 ^ 2 * (x / 4 / 2) + (x / 2) % 4 := by omega
      have e2 : bcM1 (k + 1) = 2 ^ 2 * bcM1 k + 1 := rfl
      rw [e1, e2, and_dig (by omega) (by omega), Nat.and_one_is_mod]
      omega
    rw [e]
    show _ ∧ 4 * bcP1 k (x / 4) + (x % 4 - x % 4 / 2) = _
    rw [i2]
    omega
theorem bcP2_eq : ∀ (k x : Nat), x < 16 ^ k → bcP2 k x = (x &&& bcM2 k) + ((x / 4) &&& bcM2 k)
  | 0, x, h => by
    show 0 = (x &&& 0) + (x / 4 &&& 0)
    rw [Nat.and_zero, Nat.and_zero]
  | k + 1, x, h => by
    have i2 := bcP2_eq k (x / 16) (by rw [Nat.pow_succ] at h; omega)
    have e2 : bcM2 (k + 1) = 2 ^ 4 * bcM2 k + 3 := rfl
    have a3 : ∀ r, r < 16 → r &&& 3 = r % 4 := by decide
    have e : x &&& bcM2 (k + 1) = 16 * ((x / 16) &&& bcM2 k) + x % 4 := by
      have e1 : x = 2 ^ 4 * (x / 16) + x % 16 := by omega
      rw [e2]
      conv => lhs; rw [e1]
      rw [and_dig (by omega) (by omega), a3 _ (by omega)]
      omega
    have e' : (x / 4) &&& bcM2 (k + 1) = 16 * ((x / 16 / 4) &&& bcM2 k) + x % 16 / 4 := by
      have e1 : x / 4 = 2 ^ 4 * (x / 16 / 4) + (x / 4) % 16 := by omega
      rw [e2]
      conv => lhs; rw [e1]
      rw [and_dig (by omega) (by omega), a3 _ (by omega)]
      omega
    show 16 * bcP2 k (x / 16) + (x % 4 + x % 16 / 4) = _
    rw [e, e', i2]
    omega
def bcC (x : Nat) : Nat := (x % 4 - x % 4 / 2) + (x / 4 % 4 - x / 4 % 4 / 2)
theorem bcQ (k x : Nat) : bcP2 (k + 1) (bcP1 (2 * (k + 1)) x) = 16 * bcP2 k (bcP1 (2 * k) (x / 16)) + bcC x := by
  have e : bcP1 (2 * (k + 1)) x = 16 * bcP1 (2 * k) (x / 16) + (4 * (x / 4 % 4 - x / 4 % 4 / 2) + (x % 4 - x % 4 / 2)) := by
    show 4 * (4 * bcP1 (2 * k) (x / 4 / 4) + (x / 4 % 4 - x / 4 % 4 / 2)) + (x % 4 - x % 4 / 2) = _
    rw [show x / 4 / 4 = x / 16 by omega]
    omega
  show 16 * bcP2 k (bcP1 (2 * (k + 1)) x / 16) + (bcP1 (2 * (k + 1)) x % 4 + bcP1 (2 * (k + 1)) x % 16 / 4) = _
  rw [e]
  unfold bcC
  rw [show (16 * bcP1 (2 * k) (x / 16) + (4 * (x / 4 % 4 - x / 4 % 4 / 2) + (x % 4 - x % 4 / 2))) / 16 = bcP1 (2 * k) (x / 16) by omega]
  omega
theorem cnt_sh (P : Nat → Bool) : ∀ k, cnt P (k + 1) = (P 0).toNat + cnt (fun i => P (i + 1)) k
  | 0 => by show 0 + (P 0).toNat = (P 0).toNat + 0; omega
  | k + 1 => by
    show cnt P (k + 1) + (P (k + 1)).toNat = _ + (cnt (fun i => P (i + 1)) k + (P (k + 1)).toNat)
    rw [cnt_sh P k]
    omega
theorem cnt_tb (x k : Nat) : cnt x.testBit (k + 1) = x % 2 + cnt (x / 2).testBit k := by
  rw [cnt_sh]
  congr 1
  · rw [Nat.testBit_zero]
    have : x % 2 = 0 ∨ x % 2 = 1 := by omega
    rcases this with q | q <;> simp [q]
  · apply cnt_congr
    intro i _
    rw [Nat.testBit_succ]
theorem cnt_16 (x k : Nat) : cnt x.testBit (k + 4) = bcC x + cnt (x / 16).testBit k := by
  rw [cnt_tb, cnt_tb, cnt_tb, cnt_tb, show x / 2 / 2 / 2 / 2 = x / 16 by omega]
  unfold bcC
  omega
theorem bcC_le (x : Nat) : bcC x ≤ 4 := by unfold bcC; omega
/-- after the second round: eight counts of four bits each -/
theorem bc_two {x : Nat} (hx : x < 2 ^ 32) : ∃ c0 c1 c2 c3 c4 c5 c6 c7 : Nat, c0 ≤ 4 ∧ c1 ≤ 4 ∧ c2 ≤ 4 ∧ c3 ≤ 4 ∧ c4 ≤ 4 ∧ c5 ≤ 4 ∧ c6 ≤ 4 ∧ c7 ≤ 4 ∧ cnt x.testBit 32 = c0 + c1 + c2 + c3 + c4 + c5 + c6 + c7 ∧ ((x - ((x / 2) &&& 1431655765)) &&& 858993459) + (((x - ((x / 2) &&& 1431655765)) / 4) &&& 858993459) = c0 + 16 * c1 + 256 * c2 + 4096 * c3 + 65536 * c4 + 1048576 * c5 + 16777216 * c6 + 268435456 * c7 := by
  have e1 := (bcP1_eq 16 x (Nat.lt_of_lt_of_eq hx (by decide))).2
  rw [show bcM1 16 = 1431655765 by decide] at e1
  have l1 : x - ((x / 2) &&& 1431655765) < 16 ^ 8 := Nat.lt_of_le_of_lt (Nat.sub_le _ _) (Nat.lt_of_lt_of_eq hx (by decide))
  have e2 := bcP2_eq 8 (x - ((x / 2) &&& 1431655765)) l1
  rw [show bcM2 8 = 858993459 by decide] at e2
  rw [← e2, ← e1]
  refine ⟨bcC x, bcC (x / 16), bcC (x / 16 / 16), bcC (x / 16 / 16 / 16), bcC (x / 16 / 16 / 16 / 16), bcC (x / 16 / 16 / 16 / 16 / 16), bcC (x / 16 / 16 / 16 / 16 / 16 / 16), bcC (x / 16 / 16 / 16 / 16 / 16 / 16 / 16), bcC_le _, bcC_le _, bcC_le _, bcC_le _, bcC_le _, bcC_le _, bcC_le _, bcC_le _, ?_, ?_⟩
  · rw [cnt_16, cnt_16, cnt_16, cnt_16, cnt_16, cnt_16, cnt_16, cnt_16]
    show _ + (_ + (_ + (_ + (_ + (_ + (_ + (_ + 0))))))) = _
    omega
  · have q7 := bcQ 7 x
    have q6 := bcQ 6 (x / 16)
    have q5 := bcQ 5 (x / 16 / 16)
    have q4 := bcQ 4 (x / 16 / 16 / 16)
    have q3 := bcQ 3 (x / 16 / 16 / 16 / 16)
    have q2 := bcQ 2 (x / 16 / 16 / 16 / 16 / 16)
    have q1 := bcQ 1 (x / 16 / 16 / 16 / 16 / 16 / 16)
    have q0 := bcQ 0 (x / 16 / 16 / 16 / 16 / 16 / 16 / 16)
    have qz : bcP2 0 (bcP1 (2 * 0) (x / 16 / 16 / 16 / 16 / 16 / 16 / 16 / 16)) = 0 := rfl
    rw [qz] at q0
    rw [q0] at q1
    rw [q1] at q2
    rw [q2] at q3
    rw [q3] at q4
    rw [q4] at q5
    rw [q5] at q6
    rw [q6] at q7
    refine Eq.trans (show bcP2 8 (bcP1 16 x) = bcP2 (7 + 1) (bcP1 (2 * (7 + 1)) x) from rfl) ?_
    rw [q7]
    generalize bcC x = d0
    generalize bcC (x / 16) = d1
    generalize bcC (x / 16 / 16) = d2
    generalize bcC (x / 16 / 16 / 16) = d3
    omega
theorem bc_three {c0 c1 c2 c3 c4 c5 c6 c7 x : Nat} (h0 : c0 ≤ 4) (h1 : c1 ≤ 4) (h2 : c2 ≤ 4) (h3 : c3 ≤ 4) (h4 : c4 ≤ 4) (h5 : c5 ≤ 4) (h6 : c6 ≤ 4) (h7 : c7 ≤ 4) (hx : x = c0 + 16 * c1 + 256 * c2 + 4096 * c3 + 65536 * c4 + 1048576 * c5 + 16777216 * c6 + 268435456 * c7) : (x + x / 16) &&& 252645135 = (c0 + c1) + 256 * (c2 + c3) + 65536 * (c4 + c5) + 16777216 * (c6 + c7) := by
  have a15 : ∀ r, r < 256 → r &&& 15 = r % 16 := by decide +kernel
  have e : x + x / 16 = 2 ^ 8 * (2 ^ 8 * (2 ^ 8 * (c6 + c7 + 16 * c7) + (c4 + c5 + 16 * (c5 + c6))) + (c2 + c3 + 16 * (c3 + c4))) + (c0 + c1 + 16 * (c1 + c2)) := by omega
  rw [e, show (252645135 : Nat) = 2 ^ 8 * (2 ^ 8 * (2 ^ 8 * 15 + 15) + 15) + 15 by decide, and_dig (by omega) (by omega), and_dig (by omega) (by omega), and_dig (by omega) (by omega), a15 _ (by omega), a15 _ (by omega), a15 _ (by omega), a15 _ (by omega), show (c6 + c7 + 16 * c7) % 16 = c6 + c7 by omega, show (c4 + c5 + 16 * (c5 + c6)) % 16 = c4 + c5 by omega, show (c2 + c3 + 16 * (c3 + c4)) % 16 = c2 + c3 by omega, show (c0 + c1 + 16 * (c1 + c2)) % 16 = c0 + c1 by omega]
  omega
def tn (x : Int32) : Nat := x.toBitVec.toNat
theorem tn_lt (x : Int32) : tn x < 2 ^ 32 := x.toBitVec.isLt
theorem tn_and (x y : Int32) : tn (x &&& y) = tn x &&& tn y := by unfold tn; rw [Int32.toBitVec_and, BitVec.toNat_and]
theorem tn_add {x y : Int32} (h : tn x + tn y < 2 ^ 32) : tn (x + y) = tn x + tn y := by
  unfold tn at *
  rw [Int32.toBitVec_add, BitVec.toNat_add]
  exact Nat.mod_eq_of_lt h
theorem tn_sub {x y : Int32} (h : tn y ≤ tn x) : tn (x - y) = tn x - tn y := by
  have hx := tn_lt x
  unfold tn at *
  rw [Int32.toBitVec_sub, BitVec.toNat_sub]
  omega
theorem tn_ushr (x : Int32) {k : Nat} (hk : k < 32) : tn (ushr x (nI k)) = tn x / 2 ^ k := by
  unfold tn ushr
  show (x.toUInt32 >>> ((nI k).toUInt32 &&& Int32.toUInt32 31)).toBitVec.toNat = x.toUInt32.toBitVec.toNat / 2 ^ k
  rw [UInt32.toBitVec_shiftRight]
  show (x.toUInt32.toBitVec >>> (((nI k).toUInt32 &&& Int32.toUInt32 31).toBitVec % 32).toNat).toNat = _
  rw [s_u k hk, BitVec.toNat_ushiftRight, Nat.shiftRight_eq_div_pow]
theorem tn_nI {k : Nat} (hk : k < 2 ^ 32) : tn (nI k) = k := by
  unfold tn
  show (BitVec.ofNat 32 k).toNat = k
  rw [BitVec.toNat_ofNat, Nat.mod_eq_of_lt hk]
theorem tn_inj {x y : Int32} (h : tn x = tn y) : x = y := Int32.toBitVec_inj.mp (BitVec.eq_of_toNat_eq h)
theorem tn_bt (x : Int32) (i : Nat) : bt x i = (tn x).testBit i := by
  unfold bt tn
  rw [BitVec.testBit_toNat]
def bw1 (x : Int32) : Int32 := x - (ushr x (nI 1) &&& 1431655765)
def bw2 (x : Int32) : Int32 := (x &&& 858993459) + (ushr x (nI 2) &&& 858993459)
def bw3 (x : Int32) : Int32 := (x + ushr x (nI 4)) &&& 252645135
def bw4 (x : Int32) : Int32 := x + ushr x (nI 8)
def bw5 (x : Int32) : Int32 := x + ushr x (nI 16)
theorem bw_all (x : Int32) : bw5 (bw4 (bw3 (bw2 (bw1 x)))) &&& nI 63 = nI (cnt (bt x) 32) := by
  have ec : cnt (bt x) 32 = cnt (tn x).testBit 32 := cnt_congr 32 (fun i _ => tn_bt x i)
  rw [ec]
  obtain ⟨c0, c1, c2, c3, c4, c5, c6, c7, h0, h1, h2, h3, h4, h5, h6, h7, hs, h8⟩ := bc_two (tn_lt x)
  rw [hs]
  have k1 : tn (1431655765 : Int32) = 1431655765 := by decide
  have k2 : tn (858993459 : Int32) = 858993459 := by decide
  have k3 : tn (252645135 : Int32) = 252645135 := by decide
  have t1 : tn (bw1 x) = tn x - ((tn x / 2) &&& 1431655765) := by
    unfold bw1
    have l := (bcP1_eq 16 (tn x) (Nat.lt_of_lt_of_eq (tn_lt x) (by decide))).1
    rw [show bcM1 16 = 1431655765 by decide] at l
    rw [tn_sub (by rw [tn_and, tn_ushr x (by omega), k1]; exact l), tn_and, tn_ushr x (by omega), k1]
  have t2 : tn (bw2 (bw1 x)) = c0 + 16 * c1 + 256 * c2 + 4096 * c3 + 65536 * c4 + 1048576 * c5 + 16777216 * c6 + 268435456 * c7 := by
    unfold bw2
    have e : tn (bw1 x &&& 858993459) + tn (ushr (bw1 x) (nI 2) &&& 858993459) = c0 + 16 * c1 + 256 * c2 + 4096 * c3 + 65536 * c4 + 1048576 * c5 + 16777216 * c6 + 268435456 * c7 := by
      rw [tn_and, tn_and, tn_ushr _ (by omega), k2, t1]
      exact h8
    rw [tn_add (by rw [e]; omega), e]
  generalize bw2 (bw1 x) = y at t2
  have t3 : tn (bw3 y) = (c0 + c1) + 256 * (c2 + c3) + 65536 * (c4 + c5) + 16777216 * (c6 + c7) := by
    unfold bw3
    have l := tn_lt y
    rw [tn_and, k3, tn_add (by rw [tn_ushr y (by omega)]; omega), tn_ushr y (by omega)]
    exact bc_three h0 h1 h2 h3 h4 h5 h6 h7 t2
  generalize bw3 y = z at t3
  have t4 : tn (bw4 z) = tn z + tn z / 256 := by
    unfold bw4
    rw [tn_add (by rw [tn_ushr z (by omega)]; omega), tn_ushr z (by omega)]
  generalize bw4 z = w at t4
  have t5 : tn (bw5 w) = tn w + tn w / 65536 := by
    unfold bw5
    rw [tn_add (by rw [tn_ushr w (by omega)]; omega), tn_ushr w (by omega)]
  apply tn_inj
  rw [tn_and, tn_nI (by omega), tn_nI (by omega), t5, show (63 : Nat) = 2 ^ 6 - 1 by decide, Nat.and_two_pow_sub_one_eq_mod]
  have u1 : tn z / 256 = (c2 + c3) + 256 * (c4 + c5) + 65536 * (c6 + c7) := by omega
  have u2 : tn w = (c0 + c1 + c2 + c3) + 256 * (c2 + c3 + c4 + c5) + 65536 * (c4 + c5 + c6 + c7) + 16777216 * (c6 + c7) := by omega
  have u3 : tn w / 65536 = (c4 + c5 + c6 + c7) + 256 * (c6 + c7) := by omega
  rw [u3, u2]
  clear u1 u2 u3 t1 t3 t4 t5 h8 k1 k2 k3
  have : (c0 + c1 + c2 + c3) + 256 * (c2 + c3 + c4 + c5) + 65536 * (c4 + c5 + c6 + c7) + 16777216 * (c6 + c7) + ((c4 + c5 + c6 + c7) + 256 * (c6 + c7)) = (c0 + c1 + c2 + c3 + c4 + c5 + c6 + c7) + 64 * (4 * (c2 + c3 + c4 + c5) + 1024 * (c4 + c5 + c6 + c7) + 262144 * (c6 + c7) + 4 * (c6 + c7)) := by omega
  rw [this, show (2 : Nat) ^ 6 = 64 by rfl, Nat.add_mul_mod_self_left, Nat.mod_eq_of_lt (by omega)]
theorem sp_JI_bitCount (d : Nat) (h : AH) (x : Int32) : Cl d 0 [.int x] h (some (.int (nI (cnt (bt x) 32)))) h := by
  have kC9 := co_JI_bitCount
  refine Cl_of kC9 rfl rfl ?_
  iterate 8 (refine R_s kC9 rfl rfl ?_)
  refine (show R d 0 8 [some (.int (bw1 x))] [] h _ from ?_)
  have e := bw_all x
  generalize bw1 x = y at e ⊢
  iterate 10 (refine R_s kC9 rfl rfl ?_)
  refine (show R d 0 18 [some (.int (bw2 y))] [] h _ from ?_)
  generalize bw2 y = z at e ⊢
  iterate 8 (refine R_s kC9 rfl rfl ?_)
  refine (show R d 0 26 [some (.int (bw3 z))] [] h _ from ?_)
  generalize bw3 z = w at e ⊢
  iterate 6 (refine R_s kC9 rfl rfl ?_)
  refine (show R d 0 32 [some (.int (bw4 w))] [] h _ from ?_)
  generalize bw4 w = u at e ⊢
  iterate 6 (refine R_s kC9 rfl rfl ?_)
  refine (show R d 0 38 [some (.int (bw5 u))] [] h _ from ?_)
  generalize bw5 u = t at e ⊢
  iterate 3 (refine R_s kC9 rfl rfl ?_)
  exact R_ri kC9 rfl ⟨ri_eq e, rfl⟩
