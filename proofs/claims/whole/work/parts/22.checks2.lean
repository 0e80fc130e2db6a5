/-! THE CHECKS, by the kernel, 2 -/
theorem ckb_120 : ckB 120 20 = true := by decide +kernel
theorem ckb_140 : ckB 140 20 = true := by decide +kernel
theorem ckb_160 : ckB 160 20 = true := by decide +kernel
theorem ckb_180 : ckB 180 20 = true := by decide +kernel
theorem ckb_200 : ckB 200 20 = true := by decide +kernel
theorem ckb_220 : ckB 220 20 = true := by decide +kernel
theorem ckb_240 : ckB 240 8 = true := by decide +kernel
theorem ckb_law : ckL 248 (mt 248).1 (hnt.getD 248 []) = true := by decide +kernel
theorem ckB_at {a n : Nat} (h : ckB a n = true) {k : Nat} (h1 : a ≤ k) (h2 : k < a + n) : ckM k = true := by
  have := List.all_eq_true.mp h (k - a) (List.mem_range.mpr (by omega))
  rw [show a + (k - a) = k by omega] at this
  exact this
theorem ckM_all : ∀ k, k < 248 → ckM k = true := by
  intro k hk
  rcases Nat.lt_or_ge k 20 with h0 | h0
  · exact ckB_at ckb_0 (by omega) (by omega)
  rcases Nat.lt_or_ge k 40 with h1 | h1
  · exact ckB_at ckb_20 (by omega) (by omega)
  rcases Nat.lt_or_ge k 60 with h2 | h2
  · exact ckB_at ckb_40 (by omega) (by omega)
  rcases Nat.lt_or_ge k 80 with h3 | h3
  · exact ckB_at ckb_60 (by omega) (by omega)
  rcases Nat.lt_or_ge k 100 with h4 | h4
  · exact ckB_at ckb_80 (by omega) (by omega)
  rcases Nat.lt_or_ge k 120 with h5 | h5
  · exact ckB_at ckb_100 (by omega) (by omega)
  rcases Nat.lt_or_ge k 140 with h6 | h6
  · exact ckB_at ckb_120 (by omega) (by omega)
  rcases Nat.lt_or_ge k 160 with h7 | h7
  · exact ckB_at ckb_140 (by omega) (by omega)
  rcases Nat.lt_or_ge k 180 with h8 | h8
  · exact ckB_at ckb_160 (by omega) (by omega)
  rcases Nat.lt_or_ge k 200 with h9 | h9
  · exact ckB_at ckb_180 (by omega) (by omega)
  rcases Nat.lt_or_ge k 220 with h10 | h10
  · exact ckB_at ckb_200 (by omega) (by omega)
  rcases Nat.lt_or_ge k 240 with h11 | h11
  · exact ckB_at ckb_220 (by omega) (by omega)
  rcases Nat.lt_or_ge k 248 with h12 | h12
  · exact ckB_at ckb_240 (by omega) (by omega)
  · omega
theorem ck_all : ∀ mi, mi < 249 → ckL mi (mt mi).1 (hnt.getD mi []) = true := by
  intro mi hmi
  rcases Nat.lt_or_ge mi 248 with h | h
  · have := ckM_all mi h
    unfold ckM at this
    rw [Bool.and_eq_true] at this
    exact this.1
  · have e : mi = 248 := by omega
    subst e
    exact ckb_law
theorem cy_all : ∀ mi, mi < 248 → ckY mi = true := by
  intro mi hmi
  have := ckM_all mi hmi
  unfold ckM at this
  rw [Bool.and_eq_true] at this
  exact this.2
