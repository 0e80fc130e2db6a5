/-! THE LAW, 5: from the constructors to LawRuns -/
section
variable {L : Nat} {xs : Nat → Int32}
noncomputable def inL (G : Nat → Int32) : List AC := nbL ++ moL G 6
noncomputable def inH (L : Nat) (xs : Nat → Int32) (G : Nat → Int32) : AH := alL (h0A L xs) (inL G)
noncomputable def U0 : US := (4, makeS 4 0 0, 0, [], [], [], [])
theorem in_at {G : Nat → Int32} {i : Nat} {c : AC} (hi : (inL G)[i]? = some c) : (inH L xs G).2 (3 + i) = c := alL_at (o := 3) rfl hi
theorem in_rows {h : AH} {o m : Nat} (o3 : 3 ≤ o) (hm : m < 1000) (a : h.2 o = objA 4 [.int 0, .ref (o + 1), .ref (o + 2)]) (b : h.2 (o + 1) = ints m z32) (c : h.2 (o + 2) = ints m z32) : RowsC h o m [] := ⟨Nat.zero_le _, hm, o3, a, z32, z32, b, c, (fun i x hx => by cases hx)⟩
theorem in_tpF : tpF 6 = fun t => if t < 6 then some (64 + 2 * t) else none := by
  funext t
  match t with
  | 0 => rfl
  | 1 => rfl
  | 2 => rfl
  | 3 => rfl
  | 4 => rfl
  | 5 => rfl
  | t + 6 =>
    have e : ∀ k, k ≤ 6 → tpF k (t + 6) = none := by
      intro k
      induction k with
      | zero => intro _; rfl
      | succ k ih =>
        intro hk
        show va_up (tpF k) k (some (64 + 2 * k)) (t + 6) = none
        unfold va_up
        rw [if_neg (by omega)]
        exact ih (by omega)
    rw [e 6 (by omega), if_neg (by omega)]
theorem in_set (G : Nat → Int32) : SetC (inH L xs G) 4 U0 ∧ SetC (inH L xs G) 18 U0 := by
  constructor
  · exact ⟨by omega, in_at (i := 1) rfl, ⟨by omega, in_at (i := 2) rfl⟩, in_rows (by omega) (by omega) (in_at (i := 3) rfl) (in_at (i := 4) rfl) (in_at (i := 5) rfl), in_rows (by omega) (by omega) (in_at (i := 6) rfl) (in_at (i := 7) rfl) (in_at (i := 8) rfl), in_rows (by omega) (by omega) (in_at (i := 9) rfl) (in_at (i := 10) rfl) (in_at (i := 11) rfl), in_rows (by omega) (by omega) (in_at (i := 12) rfl) (in_at (i := 13) rfl) (in_at (i := 14) rfl)⟩
  · exact ⟨by omega, in_at (i := 15) rfl, ⟨by omega, in_at (i := 16) rfl⟩, in_rows (by omega) (by omega) (in_at (i := 17) rfl) (in_at (i := 18) rfl) (in_at (i := 19) rfl), in_rows (by omega) (by omega) (in_at (i := 20) rfl) (in_at (i := 21) rfl) (in_at (i := 22) rfl), in_rows (by omega) (by omega) (in_at (i := 23) rfl) (in_at (i := 24) rfl) (in_at (i := 25) rfl), in_rows (by omega) (by omega) (in_at (i := 26) rfl) (in_at (i := 27) rfl) (in_at (i := 28) rfl)⟩
def b0S : BoS := ((0, 0, 0, 0), z32, z32, z32, z32, z32, z32, z32, z32)
theorem in_b1 (G : Nat → Int32) : BX (inH L xs G) 32 5 4 (makeS 4 0 0) 0 b0S := ⟨by omega, Or.inl (by omega), ⟨by omega, in_at (i := 2) rfl⟩, rfl, rfl, in_at (i := 29) rfl, in_at (i := 30) rfl, in_at (i := 31) rfl, in_at (i := 32) rfl, in_at (i := 33) rfl, in_at (i := 34) rfl, in_at (i := 35) rfl, in_at (i := 36) rfl, in_at (i := 37) rfl, in_at (i := 38) rfl, ⟨_, in_at (i := 39) rfl⟩, ⟨_, in_at (i := 40) rfl⟩, ⟨_, in_at (i := 41) rfl⟩, ⟨_, in_at (i := 42) rfl⟩⟩
theorem in_b2 (G : Nat → Int32) : BX (inH L xs G) 47 46 4 (makeS 4 0 0) 0 b0S := ⟨by omega, Or.inl (by omega), ⟨by omega, in_at (i := 43) rfl⟩, rfl, rfl, in_at (i := 44) rfl, in_at (i := 45) rfl, in_at (i := 46) rfl, in_at (i := 47) rfl, in_at (i := 48) rfl, in_at (i := 49) rfl, in_at (i := 50) rfl, in_at (i := 51) rfl, in_at (i := 52) rfl, in_at (i := 53) rfl, ⟨_, in_at (i := 54) rfl⟩, ⟨_, in_at (i := 55) rfl⟩, ⟨_, in_at (i := 56) rfl⟩, ⟨_, in_at (i := 57) rfl⟩⟩
theorem in_tap {h : AH} {o : Nat} (o3 : 3 ≤ o) (a : h.2 o = objA 6 [.int (-1), .ref (o + 1), .int 0]) (b : h.2 (o + 1) = longs 60 z64) : TapC h o (-1, []) := ⟨o3, Nat.zero_le _, a, z64, b, (fun i x hx => by cases hx)⟩
theorem in_nb (G : Nat → Int32) : NBI (inH L xs G) U0 U0 false [] (fun _ => (-1, [])) := by
  refine ⟨⟨rfl, rfl⟩, in_at (i := 0) rfl, (in_set G).1, (in_set G).2, ⟨b0S, in_b1 G, Or.inl rfl⟩, ⟨4, makeS 4 0 0, 0, b0S, in_b2 G, Or.inl rfl⟩, ⟨by omega, in_at (i := 58) rfl, z32, in_at (i := 59) rfl, Nat.zero_le _, (fun x hx => by cases hx), (fun i x hx => by cases hx)⟩, ?_, fun t ht => ?_⟩
  · have e : (inH L xs G).2 63 = tpC 6 := in_at (i := 60) rfl
    rw [e]
    unfold tpC
    rw [in_tpF]
  · match t, ht with
    | 0, _ => exact in_tap (by omega) (in_at (i := 61) rfl) (in_at (i := 62) rfl)
    | 1, _ => exact in_tap (by omega) (in_at (i := 63) rfl) (in_at (i := 64) rfl)
    | 2, _ => exact in_tap (by omega) (in_at (i := 65) rfl) (in_at (i := 66) rfl)
    | 3, _ => exact in_tap (by omega) (in_at (i := 67) rfl) (in_at (i := 68) rfl)
    | 4, _ => exact in_tap (by omega) (in_at (i := 69) rfl) (in_at (i := 70) rfl)
    | 5, _ => exact in_tap (by omega) (in_at (i := 71) rfl) (in_at (i := 72) rfl)
theorem in_mo {G : Nat → Int32} (hG : G 0 = nI 4 ∧ (∀ s, s < 32 → G (1 + s) = b2i (bt (makeS 4 0 0) s)) ∧ (∀ q, q < 25 → G (33 + q) = nI 0) ∧ G 58 = nI 0 ∧ ∀ q, 59 ≤ q → G q = 0) : MOI (inH L xs G) U0 U0 false [] (fun _ => (-1, [])) := by
  obtain ⟨g0, g1, g2, g3, g4⟩ := hG
  have hGU : GU U0 G := ⟨g0, g1, (fun q hq => by rw [g2 q hq]; show _ = b2i (decide (q / 5 < q % 5) && bt 0 q); rw [b_0, Bool.and_false]; rfl), ⟨g3, (fun i x hx => by cases hx)⟩, ⟨g4 63 (by omega), (fun i x hx => by cases hx)⟩, ⟨g4 72 (by omega), (fun i x hx => by cases hx)⟩, ⟨g4 89 (by omega), (fun i x hx => by cases hx)⟩⟩
  refine ⟨0, 0, 0, G, (z32, z32, z32, z32, z32, z32, 0), ⟨in_at (i := 73) rfl, in_at (i := 74) rfl, in_at (i := 77) rfl, in_at (i := 80) rfl, in_at (i := 81) rfl, in_at (i := 82) rfl, in_at (i := 83) rfl, in_at (i := 84) rfl⟩, hGU, Or.inl rfl, ⟨⟨_, in_at (i := 85) rfl⟩, ⟨_, in_at (i := 86) rfl⟩, ⟨_, in_at (i := 87) rfl⟩, _, in_at (i := 88) rfl⟩, ⟨z32, in_at (i := 75) rfl, (fun q => by cases q)⟩, ⟨z32, in_at (i := 76) rfl⟩, ⟨z32, in_at (i := 78) rfl, Nat.zero_le _, (fun x hx => by cases hx), (fun i x hx => by cases hx)⟩, ⟨z32, in_at (i := 79) rfl⟩, srF 6, z32, z64, in_at (i := 89) rfl, in_at (i := 90) rfl, in_at (i := 91) rfl, fun t ht => ⟨?_, rfl, (fun i x hx => by cases hx)⟩⟩
  match t, ht with
  | 0, _ => rfl
  | 1, _ => rfl
  | 2, _ => rfl
  | 3, _ => rfl
  | 4, _ => rfl
  | 5, _ => rfl
theorem smL_le (cs : List AC) (h : cs.all (fun c => Nat.ble (szA c) 1000) = true) : smL cs ≤ 1000 * cs.length := by
  induction cs with
  | nil => exact Nat.le_refl _
  | cons c cs ih =>
    rw [List.all_cons, Bool.and_eq_true] at h
    have h1 := Nat.le_of_ble_eq_true h.1
    have h2 := ih h.2
    show (List.map szA (c :: cs)).sum ≤ 1000 * (cs.length + 1)
    rw [List.map_cons, List.sum_cons]
    have h3 : (cs.map szA).sum ≤ 1000 * cs.length := h2
    omega
theorem in_len (G : Nat → Int32) : (inL G).length = 92 := rfl
theorem in_sz (G : Nat → Int32) : (inH L xs G).1.1 ≤ 600003 ∧ (inH L xs G).1.2 ≤ 7302250 := by
  have hl := in_len G
  constructor
  · show 3 + (inL G).length ≤ 600003
    omega
  · have h1 : (inL G).all (fun c => Nat.ble (szA c) 1000) = true := rfl
    have h2 := smL_le _ h1
    show 0 + smL (inL G) ≤ 7302250
    omega
theorem law_runs : LawRuns := by
  intro L xs hL
  have kC9 := co_LA_law
  obtain ⟨G, hG, hcl⟩ := sp_MO_init (h := alL (h0A L xs) nbL) 54 rfl
  have key : R 60 248 0 (enL [.ref 2] 4) [] (alL (h0A L xs) []) (lwQ (inH L xs G).1 L xs) := by
    refine A_new (o := 3) rfl kC9 rfl (r := 3) rfl ?_
    repeat (refine R_s kC9 rfl rfl ?_)
    refine A_ini (o := 3) rfl kC9 rfl rfl rfl rfl (p := []) rfl (fun h2 e2 => sp_NB_init 53 e2) rfl ?_
    repeat (refine R_s kC9 rfl rfl ?_)
    refine A_new (o := 3) rfl kC9 rfl (r := 76) rfl ?_
    repeat (refine R_s kC9 rfl rfl ?_)
    have e1 : alL (h0A L xs) (([] ++ nbL) ++ [objA 8 (dvl 8)]) = alL (alL (h0A L xs) nbL) [objA 8 (dvl 8)] := (alL_app nbL [objA 8 (dvl 8)]).symm
    refine R_ci kC9 rfl rfl rfl rfl (h' := inH L xs G) (r := none) (av := []) ?_ ?_
    · show Cl 59 _ _ (alL (h0A L xs) (([] ++ nbL) ++ [objA 8 (dvl 8)])) _ _
      rw [e1]
      have e2 : inH L xs G = alL (alL (h0A L xs) nbL) (moL G 6) := (alL_app nbL (moL G 6)).symm
      rw [e2]
      exact hcl
    · iterate 3 (refine R_s kC9 rfl rfl ?_)
      exact lw_loop hL L 0 _ (by omega) (by omega) ⟨U0, U0, false, [], fun _ => (-1, []), rfl, rfl, in_nb G, in_mo hG, UI0, (fun q => by cases q), TPok0⟩
  rw [alL_nil] at key
  obtain ⟨n, r, h', hr, e, hl⟩ := key
  obtain ⟨U, K, im, tx, T, hc, -⟩ := hl
  subst e
  refine ⟨n, h', hr, ?_, ?_⟩
  · rw [hc]; exact (in_sz G).1
  · rw [hc]; exact (in_sz G).2
end
