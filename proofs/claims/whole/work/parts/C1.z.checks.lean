/-! THE CHECKS, together -/
theorem ckB_at {a n : Nat} (h : ckB a n = true) {k : Nat} (h1 : a ≤ k) (h2 : k < a + n) : ckM k = true := by
  have := List.all_eq_true.mp h (k - a) (List.mem_range.mpr (by omega))
  rw [show a + (k - a) = k by omega] at this
  exact this
theorem ckSeg_at {mi a n : Nat} (h : ckSeg mi a n = true) {k : Nat} (h1 : a ≤ k) (h2 : k < a + n) {e : EI} (he : (mt mi).1[k]? = some e) : ∃ hs, ckE mi e hs = true := by
  have := List.all_eq_true.mp h (k - a) (List.mem_range.mpr (by omega))
  rw [show a + (k - a) = k by omega, he] at this
  exact ⟨_, this⟩
theorem ckM_all : ∀ k, k < 248 → ckM k = true := by
  intro k hk
  rcases Nat.lt_or_ge k 16 with h0 | h0
  · exact ckB_at ckb_0 (by omega) (by omega)
  rcases Nat.lt_or_ge k 32 with h1 | h1
  · exact ckB_at ckb_16 (by omega) (by omega)
  rcases Nat.lt_or_ge k 48 with h2 | h2
  · exact ckB_at ckb_32 (by omega) (by omega)
  rcases Nat.lt_or_ge k 64 with h3 | h3
  · exact ckB_at ckb_48 (by omega) (by omega)
  rcases Nat.lt_or_ge k 80 with h4 | h4
  · exact ckB_at ckb_64 (by omega) (by omega)
  rcases Nat.lt_or_ge k 96 with h5 | h5
  · exact ckB_at ckb_80 (by omega) (by omega)
  rcases Nat.lt_or_ge k 112 with h6 | h6
  · exact ckB_at ckb_96 (by omega) (by omega)
  rcases Nat.lt_or_ge k 128 with h7 | h7
  · exact ckB_at ckb_112 (by omega) (by omega)
  rcases Nat.lt_or_ge k 144 with h8 | h8
  · exact ckB_at ckb_128 (by omega) (by omega)
  rcases Nat.lt_or_ge k 160 with h9 | h9
  · exact ckB_at ckb_144 (by omega) (by omega)
  rcases Nat.lt_or_ge k 176 with h10 | h10
  · exact ckB_at ckb_160 (by omega) (by omega)
  rcases Nat.lt_or_ge k 192 with h11 | h11
  · exact ckB_at ckb_176 (by omega) (by omega)
  rcases Nat.lt_or_ge k 208 with h12 | h12
  · exact ckB_at ckb_192 (by omega) (by omega)
  rcases Nat.lt_or_ge k 224 with h13 | h13
  · exact ckB_at ckb_208 (by omega) (by omega)
  rcases Nat.lt_or_ge k 240 with h14 | h14
  · exact ckB_at ckb_224 (by omega) (by omega)
  rcases Nat.lt_or_ge k 248 with h15 | h15
  · exact ckB_at ckb_240 (by omega) (by omega)
  · omega
theorem len_law : (mt 248).1.length = 916 := by decide +kernel
theorem ck_all : ∀ mi, mi < 249 → ∀ (i : Nat) (e : EI), (mt mi).1[i]? = some e → ∃ hs, ckE mi e hs = true := by
  intro mi hmi i e he
  rcases Nat.lt_or_ge mi 248 with h | h
  · have := ckM_all mi h
    unfold ckM at this
    rw [Bool.and_eq_true] at this
    exact ckL_at _ _ this.1 i e he
  · have e2 : mi = 248 := by omega
    subst e2
    have hi : i < 916 := by
      have := (List.getElem?_eq_some_iff.mp he).1
      rw [len_law] at this
      exact this
    rcases Nat.lt_or_ge i 60 with h0 | h0
    · exact ckSeg_at ckg_0 (by omega) (by omega) he
    rcases Nat.lt_or_ge i 120 with h1 | h1
    · exact ckSeg_at ckg_60 (by omega) (by omega) he
    rcases Nat.lt_or_ge i 180 with h2 | h2
    · exact ckSeg_at ckg_120 (by omega) (by omega) he
    rcases Nat.lt_or_ge i 240 with h3 | h3
    · exact ckSeg_at ckg_180 (by omega) (by omega) he
    rcases Nat.lt_or_ge i 300 with h4 | h4
    · exact ckSeg_at ckg_240 (by omega) (by omega) he
    rcases Nat.lt_or_ge i 360 with h5 | h5
    · exact ckSeg_at ckg_300 (by omega) (by omega) he
    rcases Nat.lt_or_ge i 420 with h6 | h6
    · exact ckSeg_at ckg_360 (by omega) (by omega) he
    rcases Nat.lt_or_ge i 480 with h7 | h7
    · exact ckSeg_at ckg_420 (by omega) (by omega) he
    rcases Nat.lt_or_ge i 540 with h8 | h8
    · exact ckSeg_at ckg_480 (by omega) (by omega) he
    rcases Nat.lt_or_ge i 600 with h9 | h9
    · exact ckSeg_at ckg_540 (by omega) (by omega) he
    rcases Nat.lt_or_ge i 660 with h10 | h10
    · exact ckSeg_at ckg_600 (by omega) (by omega) he
    rcases Nat.lt_or_ge i 720 with h11 | h11
    · exact ckSeg_at ckg_660 (by omega) (by omega) he
    rcases Nat.lt_or_ge i 780 with h12 | h12
    · exact ckSeg_at ckg_720 (by omega) (by omega) he
    rcases Nat.lt_or_ge i 840 with h13 | h13
    · exact ckSeg_at ckg_780 (by omega) (by omega) he
    rcases Nat.lt_or_ge i 900 with h14 | h14
    · exact ckSeg_at ckg_840 (by omega) (by omega) he
    rcases Nat.lt_or_ge i 916 with h15 | h15
    · exact ckSeg_at ckg_900 (by omega) (by omega) he
    · omega
theorem cy_all : ∀ mi, mi < 248 → ckY mi = true := by
  intro mi hmi
  have := ckM_all mi hmi
  unfold ckM at this
  rw [Bool.and_eq_true] at this
  exact this.2
