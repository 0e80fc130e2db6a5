/-! THE LAW, 2: both sides of a call -/
def lwI (c : Nat × Nat) (L : Nat) (xs : Nat → Int32) (h : AH) : Prop := ∃ U K im tx T, h.1 = c ∧ h.2 2 = ints L xs ∧ NBI h U K im tx T ∧ MOI h U K im tx T ∧ UI U ∧ (im = true → UI K) ∧ TPok T
def bthC (c : Nat × Nat) (L : Nat) (xs : Nat → Int32) (h : AH) (mN mM : Nat) (av : List Value) (r : Value) : Prop := ∃ h1 h2, (∃ fs, h.2 3 = objA 0 fs) ∧ h.2 2 = ints L xs ∧ Cl 59 mN (.ref 3 :: av) h (some r) h1 ∧ (∃ fs, h1.2 76 = objA 8 fs) ∧ h1.2 2 = ints L xs ∧ Cl 59 mM (.ref 76 :: av) h1 (some r) h2 ∧ lwI c L xs h2
section
variable {c : Nat × Nat} {L : Nat} {xs : Nat → Int32} {h : AH} {U K U' K' : US} {im im' : Bool} {tx tx' : List Nat} {T T' : TPS}
theorem bthC.mk {mN mM : Nat} {av : List Value} {r : Value} (hc : h.1 = c) (hx : h.2 2 = ints L xs) (hN : NBI h U K im tx T) (hM : MOI h U K im tx T) (a : ∃ h1, NQ h U' K' im' tx' T' h1 ∧ Cl 59 mN (.ref 3 :: av) h (some r) h1) (b : ∀ h1, MOI h1 U K im tx T → ∃ h2, MOQ h1 U' K' im' tx' T' h2 ∧ Cl 59 mM (.ref 76 :: av) h1 (some r) h2) (hU : UI U') (hK : im' = true → UI K') (hT : TPok T') : bthC c L xs h mN mM av r := by
  obtain ⟨h1, ⟨a1, a2⟩, a3⟩ := a
  have m1 := hM.lo a1
  obtain ⟨h2, ⟨b1, b2⟩, b3⟩ := b h1 m1
  have x1 : h1.2 2 = ints L xs := a1.get hx (by omega)
  refine ⟨h1, h2, ⟨_, hN.2.1⟩, hx, a3, ?_, x1, b3, U', K', im', tx', T', ?_, b1.get x1 (by omega), a2.hi b1, b2, hU, hK, hT⟩
  · obtain ⟨pl, le, fi, G, z, hm, -⟩ := m1
    exact ⟨_, hm.1⟩
  · rw [b1.1, a1.1]; exact hc
theorem bo_points (hl : lwI c L xs h) (v : Int32) : ∃ r, bthC c L xs h 93 160 [.int v] (.int r) := by
  obtain ⟨U, K, im, tx, T, hc, hx, hN, hM, hU, hK, hT⟩ := hl
  exact ⟨_, bthC.mk hc hx hN hM (nb_points 55 hN v) (fun h1 m1 => mo_points m1 hU v) (hU.pts v) hK hT⟩
theorem bo_make (hl : lwI c L xs h) (v : Int32) : ∃ r, bthC c L xs h 94 166 [.int v] (.int r) := by
  obtain ⟨U, K, im, tx, T, hc, hx, hN, hM, hU, hK, hT⟩ := hl
  exact ⟨_, bthC.mk hc hx hN hM (nb_make 56 hN hU.2.2.1.2.1 hU.2.2.2.1 v) (fun h1 m1 => mo_make m1 hU v) (hU.make v) hK hT⟩
theorem bo_comes (hl : lwI c L xs h) (v : Int32) : ∃ r, bthC c L xs h 95 169 [.int v] (.int r) := by
  obtain ⟨U, K, im, tx, T, hc, hx, hN, hM, hU, hK, hT⟩ := hl
  exact ⟨_, bthC.mk hc hx hN hM (nb_comes 55 hN hU.2.2.1 v) (fun h1 m1 => mo_comes m1 hU v) (hU.comes v) hK hT⟩
theorem bo_goes (hl : lwI c L xs h) (v : Int32) : ∃ r, bthC c L xs h 96 171 [.int v] (.int r) := by
  obtain ⟨U, K, im, tx, T, hc, hx, hN, hM, hU, hK, hT⟩ := hl
  exact ⟨_, bthC.mk hc hx hN hM (nb_goes 56 hN hU.2.2.1 v) (fun h1 m1 => mo_goes m1 hU v) (hU.goes v) hK hT⟩
theorem bo_line (hl : lwI c L xs h) (v w x : Int32) : ∃ r, bthC c L xs h 97 173 [.int v, .int w, .int x] (.int r) := by
  obtain ⟨U, K, im, tx, T, hc, hx, hN, hM, hU, hK, hT⟩ := hl
  exact ⟨_, bthC.mk hc hx hN hM (nb_line 57 hN hU.2.2.1.2.1 hU.2.2.2.1 v w x) (fun h1 m1 => mo_line m1 hU v w x) (hU.line v w x) hK hT⟩
theorem bo_choose (hl : lwI c L xs h) (v : Int32) : ∃ r, bthC c L xs h 98 176 [.int v] (.int r) := by
  obtain ⟨U, K, im, tx, T, hc, hx, hN, hM, hU, hK, hT⟩ := hl
  exact ⟨_, bthC.mk hc hx hN hM (nb_choose 55 hN hU.2.2.1 hU.chP hU.ch3 v) (fun h1 m1 => mo_choose m1 hU v) (hU.choose v) hK hT⟩
theorem bo_drop (hl : lwI c L xs h) (v : Int32) : ∃ r, bthC c L xs h 99 177 [.int v] (.int r) := by
  obtain ⟨U, K, im, tx, T, hc, hx, hN, hM, hU, hK, hT⟩ := hl
  exact ⟨_, bthC.mk hc hx hN hM (nb_drop 58 hN v) (fun h1 m1 => mo_drop m1 hU v) (hU.drop v) hK hT⟩
theorem bo_see (hl : lwI c L xs h) (v w : Int32) : ∃ r, bthC c L xs h 116 226 [.int v, .int w] (.int r) := by
  obtain ⟨U, K, im, tx, T, hc, hx, hN, hM, hU, hK, hT⟩ := hl
  exact ⟨_, bthC.mk hc hx hN hM (nb_see 57 hN v w) (fun h1 m1 => mo_see m1 hU v w) (hU.see v w) hK hT⟩
theorem bo_event (hl : lwI c L xs h) (v w : Int32) : ∃ r, bthC c L xs h 120 232 [.int v, .int w] (.int r) := by
  obtain ⟨U, K, im, tx, T, hc, hx, hN, hM, hU, hK, hT⟩ := hl
  exact ⟨_, bthC.mk hc hx hN hM (nb_event 57 hN hU.2.2.1.2.1 v w) (fun h1 m1 => mo_event m1 hU v w) (hU.event v w) hK hT⟩
theorem bo_book (hl : lwI c L xs h) (v w : Int32) : ∃ r, bthC c L xs h 122 235 [.int v, .int w] (.int r) := by
  obtain ⟨U, K, im, tx, T, hc, hx, hN, hM, hU, hK, hT⟩ := hl
  exact ⟨_, bthC.mk hc hx hN hM (nb_book 57 hN hU.2.2.1.2.1 v w) (fun h1 m1 => mo_book m1 hU v w) (hU.book v w) hK hT⟩
theorem bo_feed (hl : lwI c L xs h) (v : Int32) : ∃ r, bthC c L xs h 100 178 [.int v] (.int r) := by
  obtain ⟨U, K, im, tx, T, hc, hx, hN, hM, hU, hK, hT⟩ := hl
  exact ⟨_, bthC.mk hc hx hN hM (nb_feed 57 hN v) (fun h1 m1 => mo_feed m1 v) (hU) hK hT⟩
theorem bo_read (hl : lwI c L xs h) : ∃ r, bthC c L xs h 101 185 [] (.int r) := by
  obtain ⟨U, K, im, tx, T, hc, hx, hN, hM, hU, hK, hT⟩ := hl
  exact ⟨_, bthC.mk hc hx hN hM (nb_read 52 UI_goodC hU hN) (fun h1 m1 => mo_read m1 hU) (hU.read tx) hK hT⟩
theorem bo_family (hl : lwI c L xs h) (v : Int32) : ∃ r, bthC c L xs h 102 186 [.int v] (.int r) := by
  obtain ⟨U, K, im, tx, T, hc, hx, hN, hM, hU, hK, hT⟩ := hl
  exact ⟨_, bthC.mk hc hx hN hM (⟨h, NQ.rfl' hN, nb_family 58 hN v⟩) (fun h1 m1 => ⟨h1, MOQ.rfl' m1, mo_family m1 v⟩) (hU) hK hT⟩
theorem bo_of (hl : lwI c L xs h) (v w : Int32) : ∃ r, bthC c L xs h 103 191 [.int v, .int w] (.int r) := by
  obtain ⟨U, K, im, tx, T, hc, hx, hN, hM, hU, hK, hT⟩ := hl
  exact ⟨_, bthC.mk hc hx hN hM (⟨h, NQ.rfl' hN, nb_of 56 hN hU.2.2.1 v w⟩) (fun h1 m1 => ⟨h1, MOQ.rfl' m1, mo_of m1 hU v w⟩) (hU) hK hT⟩
theorem bo_part (hl : lwI c L xs h) (v w : Int32) : ∃ r, bthC c L xs h 104 192 [.int v, .int w] (.int r) := by
  obtain ⟨U, K, im, tx, T, hc, hx, hN, hM, hU, hK, hT⟩ := hl
  exact ⟨_, bthC.mk hc hx hN hM (⟨h, NQ.rfl' hN, nb_part 57 hN hU.2.2.1 v w⟩) (fun h1 m1 => ⟨h1, MOQ.rfl' m1, mo_part m1 hU v w⟩) (hU) hK hT⟩
theorem bo_chosen (hl : lwI c L xs h) (v : Int32) : ∃ r, bthC c L xs h 106 212 [.int v] (.int r) := by
  obtain ⟨U, K, im, tx, T, hc, hx, hN, hM, hU, hK, hT⟩ := hl
  exact ⟨_, bthC.mk hc hx hN hM (⟨h, NQ.rfl' hN, nb_chosen 58 hN v⟩) (fun h1 m1 => ⟨h1, MOQ.rfl' m1, mo_chosen m1 hU v⟩) (hU) hK hT⟩
theorem bo_looked (hl : lwI c L xs h) : ∃ r, bthC c L xs h 123 236 [] (.int r) := by
  obtain ⟨U, K, im, tx, T, hc, hx, hN, hM, hU, hK, hT⟩ := hl
  exact ⟨_, bthC.mk hc hx hN hM (⟨h, NQ.rfl' hN, nb_looked 56 hN hU.2.2.1 hU.2.1.2.2.2⟩) (fun h1 m1 => ⟨h1, MOQ.rfl' m1, mo_looked m1 hU⟩) (hU) hK hT⟩
theorem bo_judge (hl : lwI c L xs h) (v w : Int32) : ∃ r, bthC c L xs h 124 239 [.int v, .int w] (.int r) := by
  obtain ⟨U, K, im, tx, T, hc, hx, hN, hM, hU, hK, hT⟩ := hl
  exact ⟨_, bthC.mk hc hx hN hM (⟨h, NQ.rfl' hN, nb_judge 56 hN hU.2.2.1 v w⟩) (fun h1 m1 => ⟨h1, MOQ.rfl' m1, mo_judge m1 hU hT v w⟩) (hU) hK hT⟩
theorem bo_count (hl : lwI c L xs h) (v : Int32) : ∃ r, bthC c L xs h 127 242 [.int v] (.int r) := by
  obtain ⟨U, K, im, tx, T, hc, hx, hN, hM, hU, hK, hT⟩ := hl
  exact ⟨_, bthC.mk hc hx hN hM (⟨h, NQ.rfl' hN, nb_count 59 hN v⟩) (fun h1 m1 => ⟨h1, MOQ.rfl' m1, mo_count m1 v⟩) (hU) hK hT⟩
theorem bo_peek (hl : lwI c L xs h) (v w : Int32) : ∃ r, bthC c L xs h 130 246 [.int v, .int w] (.long r) := by
  obtain ⟨U, K, im, tx, T, hc, hx, hN, hM, hU, hK, hT⟩ := hl
  exact ⟨_, bthC.mk hc hx hN hM (⟨h, NQ.rfl' hN, nb_peek 57 hN v w⟩) (fun h1 m1 => ⟨h1, MOQ.rfl' m1, mo_peek m1 hT v w⟩) (hU) hK hT⟩
theorem bo_told (hl : lwI c L xs h) (v : Int32) : ∃ r, bthC c L xs h 105 211 [.int v] (.int r) := by
  obtain ⟨U, K, im, tx, T, hc, hx, hN, hM, hU, hK, hT⟩ := hl
  exact ⟨_, bthC.mk hc hx hN hM (nb_told 49 hN hU.FG hU.2.2.2.1 (fun t ht => (hU.2.1.1 t ht).2) hU.hv v) (fun h1 m1 => mo_told m1 hU v) (hU) hK hT⟩
theorem bo_nests (hl : lwI c L xs h) (v : Int32) : ∃ r, bthC c L xs h 107 213 [.int v] (.int r) := by
  obtain ⟨U, K, im, tx, T, hc, hx, hN, hM, hU, hK, hT⟩ := hl
  exact ⟨_, bthC.mk hc hx hN hM (nb_nests 50 hN hU.FG v) (fun h1 m1 => mo_nests m1 hU v) (hU) hK hT⟩
theorem bo_risen (hl : lwI c L xs h) (v : Int32) : ∃ r, bthC c L xs h 108 214 [.int v] (.int r) := by
  obtain ⟨U, K, im, tx, T, hc, hx, hN, hM, hU, hK, hT⟩ := hl
  exact ⟨_, bthC.mk hc hx hN hM (nb_risen 49 hN hU.FG v) (fun h1 m1 => mo_risen m1 hU v) (hU) hK hT⟩
theorem bo_at (hl : lwI c L xs h) (v w : Int32) : ∃ r, bthC c L xs h 109 215 [.int v, .int w] (.int r) := by
  obtain ⟨U, K, im, tx, T, hc, hx, hN, hM, hU, hK, hT⟩ := hl
  exact ⟨_, bthC.mk hc hx hN hM (nb_at 49 hN hU.FG v w) (fun h1 m1 => mo_at m1 hU v w) (hU) hK hT⟩
theorem bo_set (hl : lwI c L xs h) (v w : Int32) : ∃ r, bthC c L xs h 110 216 [.int v, .int w] (.int r) := by
  obtain ⟨U, K, im, tx, T, hc, hx, hN, hM, hU, hK, hT⟩ := hl
  exact ⟨_, bthC.mk hc hx hN hM (nb_set 49 hN hU.FG v w) (fun h1 m1 => mo_set m1 hU v w) (hU) hK hT⟩
theorem bo_flip (hl : lwI c L xs h) (v w : Int32) : ∃ r, bthC c L xs h 111 217 [.int v, .int w] (.int r) := by
  obtain ⟨U, K, im, tx, T, hc, hx, hN, hM, hU, hK, hT⟩ := hl
  exact ⟨_, bthC.mk hc hx hN hM (nb_flip 49 hN hU.FG v w) (fun h1 m1 => mo_flip m1 hU v w) (hU) hK hT⟩
theorem bo_corner (hl : lwI c L xs h) (v w : Int32) : ∃ r, bthC c L xs h 112 218 [.int v, .int w] (.int r) := by
  obtain ⟨U, K, im, tx, T, hc, hx, hN, hM, hU, hK, hT⟩ := hl
  exact ⟨_, bthC.mk hc hx hN hM (nb_corner 49 hN hU.FG v w) (fun h1 m1 => mo_corner m1 hU v w) (hU) hK hT⟩
theorem bo_steps (hl : lwI c L xs h) (v w : Int32) : ∃ r, bthC c L xs h 113 219 [.int v, .int w] (.int r) := by
  obtain ⟨U, K, im, tx, T, hc, hx, hN, hM, hU, hK, hT⟩ := hl
  exact ⟨_, bthC.mk hc hx hN hM (nb_steps 49 hN hU.FG v w) (fun h1 m1 => mo_steps m1 hU v w) (hU) hK hT⟩
theorem bo_face (hl : lwI c L xs h) (v w : Int32) : ∃ r, bthC c L xs h 114 221 [.int v, .int w] (.int r) := by
  obtain ⟨U, K, im, tx, T, hc, hx, hN, hM, hU, hK, hT⟩ := hl
  exact ⟨_, bthC.mk hc hx hN hM (nb_face 49 hN hU.FG v w) (fun h1 m1 => mo_face m1 hU v w) (hU) hK hT⟩
theorem bo_leads (hl : lwI c L xs h) (v : Int32) : ∃ r, bthC c L xs h 115 225 [.int v] (.int r) := by
  obtain ⟨U, K, im, tx, T, hc, hx, hN, hM, hU, hK, hT⟩ := hl
  exact ⟨_, bthC.mk hc hx hN hM (nb_leads 49 hN hU.FG v) (fun h1 m1 => mo_leads m1 hU v) (hU) hK hT⟩
theorem bo_odds (hl : lwI c L xs h) (v w : Int32) : ∃ r, bthC c L xs h 118 230 [.int v, .int w] (.long r) := by
  obtain ⟨U, K, im, tx, T, hc, hx, hN, hM, hU, hK, hT⟩ := hl
  exact ⟨_, bthC.mk hc hx hN hM (nb_odds 49 hN hU.FG v w) (fun h1 m1 => mo_odds m1 hU v w) (hU) hK hT⟩
theorem bo_mean (hl : lwI c L xs h) (v w : Int32) : ∃ r, bthC c L xs h 119 231 [.int v, .int w] (.long r) := by
  obtain ⟨U, K, im, tx, T, hc, hx, hN, hM, hU, hK, hT⟩ := hl
  exact ⟨_, bthC.mk hc hx hN hM (nb_mean 49 hN hU.FG v w) (fun h1 m1 => mo_mean m1 hU v w) (hU) hK hT⟩
theorem bo_fits (hl : lwI c L xs h) : ∃ r, bthC c L xs h 117 228 [] (.int r) := by
  obtain ⟨U, K, im, tx, T, hc, hx, hN, hM, hU, hK, hT⟩ := hl
  have hk : ∀ k, Fam U.1 (makeS U.1 U.2.2.1 k) := fun k => Fam.make hU.2.2.1.1 hU.2.2.1.2.1 k
  exact ⟨_, bthC.mk hc hx hN hM (nb_fits 49 hN hU.2.2.1.2.1 hU.2.2.2.1 (fun k _ => ⟨hk k, c120_of (hk k), flU_of (hk k)⟩) hU.2.1.2.1) (fun h1 m1 => mo_fits m1 hU) (hU) hK hT⟩
theorem bo_after (hl : lwI c L xs h) (v : Int32) : ∃ r, bthC c L xs h 121 234 [.int v] (.int r) := by
  obtain ⟨U, K, im, tx, T, hc, hx, hN, hM, hU, hK, hT⟩ := hl
  exact ⟨_, bthC.mk hc hx hN hM (nb_after 49 UI_goodA hU hN hU.2.1.2.2.1 v) (fun h1 m1 => mo_after m1 hU v) (hU) hK hT⟩
theorem bo_image (hl : lwI c L xs h) : ∃ r, bthC c L xs h 125 240 [] (.int r) := by
  obtain ⟨U, K, im, tx, T, hc, hx, hN, hM, hU, hK, hT⟩ := hl
  exact ⟨_, bthC.mk hc hx hN hM (nb_image 56 hN) (fun h1 m1 => mo_image m1 hU) (hU) (fun _ => hU) hT⟩
theorem bo_undo (hl : lwI c L xs h) : ∃ r, bthC c L xs h 126 241 [] (.int r) := by
  obtain ⟨U, K, im, tx, T, hc, hx, hN, hM, hU, hK, hT⟩ := hl
  cases im with
  | false => exact ⟨_, bthC.mk hc hx hN hM (⟨h, NQ.rfl' hN, nb_undo0 59 hN⟩) (fun h1 m1 => ⟨h1, MOQ.rfl' m1, mo_undo0 m1⟩) (hU) hK hT⟩
  | true => exact ⟨_, bthC.mk hc hx hN hM (nb_undo1 56 hN) (fun h1 m1 => mo_undo1 m1 (hK rfl)) (hK rfl) hK hT⟩
theorem bo_tape (hl : lwI c L xs h) (v w x : Int32) : ∃ r, bthC c L xs h 128 243 [.int v, .int w, .int x] (.int r) := by
  obtain ⟨U, K, im, tx, T, hc, hx, hN, hM, hU, hK, hT⟩ := hl
  exact ⟨_, bthC.mk hc hx hN hM (nb_tape 58 hN v w x) (fun h1 m1 => mo_tape m1 hT v w x) (hU) hK (hT.tape v w x)⟩
theorem bo_item (hl : lwI c L xs h) (v w : Int32) (x : Int64) : ∃ r, bthC c L xs h 129 245 [.int v, .int w, .long x] (.int r) := by
  obtain ⟨U, K, im, tx, T, hc, hx, hN, hM, hU, hK, hT⟩ := hl
  exact ⟨_, bthC.mk hc hx hN hM (nb_item 57 hN hT v w x) (fun h1 m1 => mo_item m1 hT v w x) (hU) hK (hT.item v w x)⟩
theorem bo_shift (hl : lwI c L xs h) (v w x y z : Int32) : ∃ r, bthC c L xs h 131 247 [.int v, .int w, .int x, .int y, .int z] (.int r) := by
  obtain ⟨U, K, im, tx, T, hc, hx, hN, hM, hU, hK, hT⟩ := hl
  exact ⟨_, bthC.mk hc hx hN hM (nb_shift 58 hN v w x y z) (fun h1 m1 => mo_shift m1 hT v w x y z) (hU) hK (hT.shift v w x y z)⟩
end
