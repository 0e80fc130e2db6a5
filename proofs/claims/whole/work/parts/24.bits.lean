/-! BITS (the first rows out of kit/laws/BITS.to-paste) -/
def bt (x : Int32) (i : Nat) : Bool := x.toBitVec.getLsbD i
theorem b_ext {x y : Int32} (h : ∀ i, i < 32 → bt x i = bt y i) : x = y := Int32.toBitVec_inj.mp (BitVec.eq_of_getLsbD_eq (fun i hi => h i hi))
theorem b_or (x y : Int32) (i : Nat) : bt (x ||| y) i = (bt x i || bt y i) := by unfold bt; rw [Int32.toBitVec_or, BitVec.getLsbD_or]
theorem b_and (x y : Int32) (i : Nat) : bt (x &&& y) i = (bt x i && bt y i) := by unfold bt; rw [Int32.toBitVec_and, BitVec.getLsbD_and]
theorem b_xor (x y : Int32) (i : Nat) : bt (x ^^^ y) i = (bt x i ^^ bt y i) := by unfold bt; rw [Int32.toBitVec_xor, BitVec.getLsbD_xor]
theorem b_big {x : Int32} {i : Nat} (h : 32 ≤ i) : bt x i = false := BitVec.getLsbD_of_ge _ _ h
theorem b_255 (i : Nat) : bt 255 i = decide (i < 8) := by
  rcases Nat.lt_or_ge i 32 with h | h
  · exact (by decide +kernel : ∀ i, i < 32 → bt 255 i = decide (i < 8)) i h
  · rw [b_big h, decide_eq_false (by omega)]
theorem b_65535 (i : Nat) : bt 65535 i = decide (i < 16) := by
  rcases Nat.lt_or_ge i 32 with h | h
  · exact (by decide +kernel : ∀ i, i < 32 → bt 65535 i = decide (i < 16)) i h
  · rw [b_big h, decide_eq_false (by omega)]
theorem b_m1 : ∀ i, i < 32 → bt (-1) i = true := by decide +kernel
theorem b_0 (i : Nat) : bt 0 i = false := BitVec.getLsbD_zero
theorem s_l : ∀ n, n < 32 → ((nI n &&& 31).toBitVec.smod 32).toNat = n := by decide +kernel
theorem s_u : ∀ n, n < 32 → (((nI n).toUInt32 &&& Int32.toUInt32 31).toBitVec % 32).toNat = n := by decide +kernel
theorem b_shl (n : Nat) (hn : n < 32) (x : Int32) {i : Nat} (hi : i < 32) : bt (x <<< (nI n &&& 31)) i = (decide (n ≤ i) && bt x (i - n)) := by
  unfold bt
  rw [Int32.toBitVec_shiftLeft]
  show (x.toBitVec <<< ((nI n &&& 31).toBitVec.smod 32).toNat).getLsbD i = _
  rw [s_l n hn, BitVec.getLsbD_shiftLeft]
  rcases Nat.lt_or_ge i n with h | h
  · simp [h, Nat.not_le.mpr h]
  · simp [hi, h, Nat.not_lt.mpr h]
theorem b_ushr (n : Nat) (hn : n < 32) (x : Int32) (i : Nat) : bt ((x.toUInt32 >>> ((nI n).toUInt32 &&& Int32.toUInt32 31)).toInt32) i = bt x (n + i) := by
  show (x.toUInt32 >>> ((nI n).toUInt32 &&& Int32.toUInt32 31)).toBitVec.getLsbD i = x.toUInt32.toBitVec.getLsbD (n + i)
  rw [UInt32.toBitVec_shiftRight]
  show (x.toUInt32.toBitVec >>> (((nI n).toUInt32 &&& Int32.toUInt32 31).toBitVec % 32).toNat).getLsbD i = _
  rw [s_u n hn, BitVec.getLsbD_ushiftRight]
theorem b_sshr (n : Nat) (hn : n < 32) (x : Int32) {i : Nat} (hi : i < 32) : bt (x >>> (nI n &&& 31)) i = if n + i < 32 then bt x (n + i) else bt x 31 := by
  unfold bt
  rw [Int32.toBitVec_shiftRight]
  show (x.toBitVec.sshiftRight ((nI n &&& 31).toBitVec.smod 32).toNat).getLsbD i = _
  rw [s_l n hn, BitVec.getLsbD_sshiftRight, BitVec.msb_eq_getLsbD_last]
  simp [hi]
theorem b_shl8 (x : Int32) {i : Nat} (hi : i < 32) : bt (x <<< ((8 : Int32) &&& 31)) i = (decide (8 ≤ i) && bt x (i - 8)) := b_shl 8 (by omega) x hi
theorem b_shl16 (x : Int32) {i : Nat} (hi : i < 32) : bt (x <<< ((16 : Int32) &&& 31)) i = (decide (16 ≤ i) && bt x (i - 16)) := b_shl 16 (by omega) x hi
theorem b_shl24 (x : Int32) {i : Nat} (hi : i < 32) : bt (x <<< ((24 : Int32) &&& 31)) i = (decide (24 ≤ i) && bt x (i - 24)) := b_shl 24 (by omega) x hi
theorem b_sshr8 (x : Int32) {i : Nat} (hi : i < 32) : bt (x >>> ((8 : Int32) &&& 31)) i = if 8 + i < 32 then bt x (8 + i) else bt x 31 := b_sshr 8 (by omega) x hi
theorem nx_and (a b : Nat) : nI a &&& nI b = nI (a &&& b) := by
  apply Int32.toBitVec_inj.1
  show BitVec.ofNat 32 a &&& BitVec.ofNat 32 b = BitVec.ofNat 32 (a &&& b)
  apply BitVec.eq_of_getLsbD_eq
  intro i hi
  simp [hi]
theorem nx_xor (a b : Nat) : nI a ^^^ nI b = nI (a ^^^ b) := by
  apply Int32.toBitVec_inj.1
  show BitVec.ofNat 32 a ^^^ BitVec.ofNat 32 b = BitVec.ofNat 32 (a ^^^ b)
  apply BitVec.eq_of_getLsbD_eq
  intro i hi
  simp [hi]
theorem nx_or (a b : Nat) : nI a ||| nI b = nI (a ||| b) := by
  apply Int32.toBitVec_inj.1
  show BitVec.ofNat 32 a ||| BitVec.ofNat 32 b = BitVec.ofNat 32 (a ||| b)
  apply BitVec.eq_of_getLsbD_eq
  intro i hi
  simp [hi]
theorem nI_bt {a : Nat} (i : Nat) (hi : i < 32) : bt (nI a) i = a.testBit i := by
  unfold bt
  show (BitVec.ofNat 32 a).getLsbD i = _
  rw [BitVec.getLsbD_ofNat]
  simp only [hi, decide_true, Bool.true_and]
theorem nI_shl {k : Nat} (hk : k < 32) (a : Nat) : nI a <<< (nI k &&& 31) = nI (a <<< k) := by
  apply b_ext
  intro i hi
  rw [b_shl k hk _ hi, nI_bt i hi]
  rcases Nat.lt_or_ge i k with h | h
  · simp [Nat.not_le.mpr h, Nat.testBit_shiftLeft]
  · rw [nI_bt _ (by omega)]
    simp [h, Nat.testBit_shiftLeft]
theorem nI_shr {k a : Nat} (hk : k < 32) (ha : a < 2 ^ 31) : nI a >>> (nI k &&& 31) = nI (a >>> k) := by
  apply b_ext
  intro i hi
  rw [b_sshr k hk _ hi, nI_bt i hi, nI_bt 31 (by omega)]
  have h31 : a.testBit 31 = false := Nat.testBit_lt_two_pow ha
  rcases Nat.lt_or_ge (k + i) 32 with h | h
  · rw [if_pos h, nI_bt _ h, Nat.testBit_shiftRight]
  · rw [if_neg (by omega), h31, Nat.testBit_shiftRight]
    exact (Nat.testBit_lt_two_pow (Nat.lt_of_lt_of_le ha (Nat.pow_le_pow_right (by omega) (by omega)))).symm
theorem nI_has {k a : Nat} (hk : k < 32) (ha : a < 2 ^ 31) : (nI a >>> (nI k &&& 31)) &&& nI 1 = nI (a.testBit k).toNat := by
  rw [nI_shr hk ha, nx_and]
  congr 1
  rw [Nat.testBit, Nat.and_comm 1, Nat.and_one_is_mod]
  have : a >>> k % 2 = 0 ∨ a >>> k % 2 = 1 := by omega
  rcases this with h | h <;> simp [h]
theorem one_bt {k i : Nat} (hk : k < 32) (hi : i < 32) : bt (nI 1 <<< (nI k &&& 31)) i = decide (i = k) := by
  rw [nI_shl hk, nI_bt i hi, Nat.one_shiftLeft, Nat.testBit_two_pow]
  simp [eq_comm]
theorem not_bt (x : Int32) {i : Nat} (hi : i < 32) : bt (~~~ x) i = !bt x i := by
  unfold bt
  rw [Int32.toBitVec_not, BitVec.getLsbD_not]
  simp [hi]
theorem m1_xor_bt (x : Int32) {i : Nat} (hi : i < 32) : bt (x ^^^ (-1)) i = !bt x i := by
  rw [b_xor, b_m1 i hi, Bool.xor_true]
/-- bit s of a mask, asked as x >>> s & 1 -/
theorem ushr_bt {k : Nat} (hk : k < 32) (x : Int32) : ushr x (nI k) &&& nI 1 = b2i (bt x k) := by
  apply b_ext
  intro i hi
  unfold ushr
  rw [b_and, b_ushr k hk, nI_bt i hi]
  by_cases h0 : i = 0
  · subst h0
    cases h : bt x k <;> simp [h, b2i] <;> rfl
  · have h1 : (1 : Nat).testBit i = false := by
      rw [show (1 : Nat) = 2 ^ 0 by rfl, Nat.testBit_two_pow]
      simp [Ne.symm h0]
    rw [h1, Bool.and_false]
    cases bt x k
    · exact (b_0 i).symm
    · show false = bt (nI 1) i
      rw [nI_bt i hi, h1]
theorem shr_bt {k : Nat} (hk : k < 32) (x : Int32) : (x >>> (nI k &&& 31)) &&& nI 1 = b2i (bt x k) := by
  apply b_ext
  intro i hi
  rw [b_and, b_sshr k hk x hi, nI_bt i hi]
  by_cases h0 : i = 0
  · subst h0
    rw [if_pos (by omega)]
    cases h : bt x k <;> simp [h, b2i] <;> rfl
  · have h1 : (1 : Nat).testBit i = false := by
      rw [show (1 : Nat) = 2 ^ 0 by rfl, Nat.testBit_two_pow]
      simp [Ne.symm h0]
    rw [h1, Bool.and_false]
    cases bt x k
    · exact (b_0 i).symm
    · show false = bt (nI 1) i
      rw [nI_bt i hi, h1]
/-- a mask out of a property of places -/
def mask32 (P : Nat → Bool) : Nat → Int32
  | 0 => nI 0
  | k + 1 => if P k = true then mask32 P k ||| (nI 1 <<< (nI k &&& 31)) else mask32 P k
def maskOf (P : Nat → Bool) : Int32 := mask32 P 32
theorem mask32_bt (P : Nat → Bool) : ∀ (k : Nat), k ≤ 32 → ∀ i, i < 32 → bt (mask32 P k) i = (decide (i < k) && P i)
  | 0, _, i, hi => by
    show bt (nI 0) i = _
    rw [nI_bt i hi]
    simp
  | k + 1, hk, i, hi => by
    unfold mask32
    have ih := mask32_bt P k (by omega) i hi
    by_cases hp : P k = true
    · rw [if_pos hp, b_or, ih, one_bt (by omega) hi]
      by_cases hik : i = k
      · subst hik
        simp [hp]
      · rcases Nat.lt_or_ge i k with h | h
        · simp [h, Nat.lt_succ_of_lt h, hik]
        · simp [Nat.not_lt.mpr h, hik, show ¬ i < k + 1 by omega]
    · rw [if_neg hp, ih]
      by_cases hik : i = k
      · subst hik
        simp [hp]
      · rcases Nat.lt_or_ge i k with h | h
        · simp [h, Nat.lt_succ_of_lt h]
        · simp [Nat.not_lt.mpr h, show ¬ i < k + 1 by omega]
theorem maskOf_bt (P : Nat → Bool) {i : Nat} (hi : i < 32) : bt (maskOf P) i = P i := by
  unfold maskOf
  rw [mask32_bt P 32 (by omega) i hi]
  simp [hi]
theorem maskOf_eq {x : Int32} {P : Nat → Bool} (h : ∀ i, i < 32 → bt x i = P i) : x = maskOf P := b_ext (fun i hi => by rw [h i hi, maskOf_bt P hi])
theorem maskOf_self (x : Int32) : maskOf (bt x) = x := (maskOf_eq (fun _ _ => rfl)).symm
/-- the places of a mask, the least first -/
def els (x : Int32) : List Nat := (List.range 32).filter (bt x)
/-- noncomputable truth -/
noncomputable def pb (P : Prop) : Bool := @decide P (Classical.propDecidable P)
theorem pb_true {P : Prop} : pb P = true ↔ P := by unfold pb; exact @decide_eq_true_iff P (Classical.propDecidable P)
theorem pb_false {P : Prop} : pb P = false ↔ ¬ P := by unfold pb; exact @decide_eq_false_iff_not P (Classical.propDecidable P)
theorem pb_dec (P : Prop) (i : Decidable P) : pb P = @decide P i := by
  by_cases h : P
  · rw [pb_true.mpr h, decide_eq_true h]
  · rw [pb_false.mpr h, decide_eq_false h]
