/-! THE LAW, 1: the reference's state -/
def MOI (h : AH) (U K : US) (im : Bool) (tx : List Nat) (T : TPS) : Prop := ∃ (pl le fi : Int32) (G : Nat → Int32) (z : ZT), mCel h (b2i im) (nI tx.length) pl le fi G z ∧ GU U G ∧ caI z ∧ rows4 h ∧ (∃ Kf, h.2 78 = ints 106 Kf ∧ (im = true → GU K Kf)) ∧ (∃ W, h.2 79 = ints 106 W) ∧ (∃ Tf, h.2 81 = ints 100 Tf ∧ TxR tx Tf) ∧ (∃ Fg, h.2 82 = ints 5 Fg) ∧ ∃ Sf Zf If, h.2 92 = ints 6 Sf ∧ h.2 93 = ints 6 Zf ∧ h.2 94 = longs 360 If ∧ TPM T Sf Zf If
def MOQ (h : AH) (U K : US) (im : Bool) (tx : List Nat) (T : TPS) (h' : AH) : Prop := frI 76 94 h h' ∧ MOI h' U K im tx T
section
variable {h h' : AH} {U K V : US} {im : Bool} {tx : List Nat} {T : TPS}
theorem MOQ.rfl' (hM : MOI h U K im tx T) : MOQ h U K im tx T h := ⟨frI.refl _ _ _, hM⟩
theorem NBI.hi (hI : NBI h U K im tx T) (x : frI 76 94 h h') : NBI h' U K im tx T := by
  obtain ⟨⟨a0, a1⟩, a2, a3, a4, ⟨b, a5, a6⟩, ⟨n, S, Lm, b', a7, a8⟩, a9, a10, a11⟩ := hI
  refine ⟨⟨x.get a0 (by omega), x.get a1 (by omega)⟩, x.get a2 (by omega), a3.fr x (by omega), a4.fr x (by omega), ⟨b, a5.re (fun q q1 q2 => x.2 q (by omega)) (x.2 0 (by omega)) (x.2 1 (by omega)) (a5.2.2.1.fr x (by omega)), a6⟩, ⟨n, S, Lm, b', a7.re (fun q q1 q2 => x.2 q (by omega)) (x.2 0 (by omega)) (x.2 1 (by omega)) (a7.2.2.1.fr x (by omega)), a8⟩, a9.fr x (by omega), x.get a10 (by omega), fun t ht => (a11 t ht).fr x (by omega)⟩
theorem MOI.lo (hM : MOI h U K im tx T) (x : frI 3 75 h h') : MOI h' U K im tx T := by
  obtain ⟨pl, le, fi, G, z, hm, hG, hI, ⟨⟨F1, r1⟩, ⟨F2, r2⟩, ⟨F3, r3⟩, F4, r4⟩, ⟨Kf, hK, hKG⟩, ⟨W, hW⟩, ⟨Tf, hT, hx⟩, ⟨Fg, hF⟩, Sf, Zf, If, hs, hz, hi, hTP⟩ := hM
  have g : ∀ {q : Nat} {c : AC}, 76 ≤ q → h.2 q = c → h'.2 q = c := fun hq e => x.get e (by omega)
  exact ⟨pl, le, fi, G, z, ⟨g (by omega) hm.1, g (by omega) hm.2.1, g (by omega) hm.2.2.1, g (by omega) hm.2.2.2.1, g (by omega) hm.2.2.2.2.1, g (by omega) hm.2.2.2.2.2.1, g (by omega) hm.2.2.2.2.2.2.1, g (by omega) hm.2.2.2.2.2.2.2⟩, hG, hI, ⟨⟨F1, g (by omega) r1⟩, ⟨F2, g (by omega) r2⟩, ⟨F3, g (by omega) r3⟩, F4, g (by omega) r4⟩, ⟨Kf, g (by omega) hK, hKG⟩, ⟨W, g (by omega) hW⟩, ⟨Tf, g (by omega) hT, hx⟩, ⟨Fg, g (by omega) hF⟩, Sf, Zf, If, g (by omega) hs, g (by omega) hz, g (by omega) hi, hTP⟩
/-- only caches changed -/
theorem MOQ.c3 (hM : MOI h U K im tx T) {pl le fi : Int32} {G' : Nat → Int32} {z' : ZT} (hI' : caI z') (hm' : mCel h' (b2i im) (nI tx.length) pl le fi G' z') (hG' : GU U G') (fr : frm3 h h') (hr' : rows4 h') {W' : Nat → Int32} (hW' : h'.2 79 = ints 106 W') : MOQ h U K im tx T h' := by
  obtain ⟨_, _, _, _, _, _, _, _, _, ⟨Kf, hK, hKG⟩, _, ⟨Tf, hT, hx⟩, ⟨Fg, hF⟩, Sf, Zf, If, hs, hz, hi, hTP⟩ := hM
  have g : ∀ {q : Nat} {c : AC}, (q = 78 ∨ q = 81 ∨ q = 82 ∨ 92 ≤ q) → h.2 q = c → h'.2 q = c := fun hq e => (fr.2 _ (by omega)).trans e
  exact ⟨⟨fr.1, fun q hq => fr.2 q (by omega)⟩, pl, le, fi, G', z', hm', hG', hI', hr', ⟨Kf, g (by omega) hK, hKG⟩, ⟨W', hW'⟩, ⟨Tf, g (by omega) hT, hx⟩, ⟨Fg, g (by omega) hF⟩, Sf, Zf, If, g (by omega) hs, g (by omega) hz, g (by omega) hi, hTP⟩
theorem MOQ.c2 (hM : MOI h U K im tx T) {pl le fi : Int32} {G' : Nat → Int32} {z' : ZT} (hI' : caI z') (hm' : mCel h' (b2i im) (nI tx.length) pl le fi G' z') (hG' : GU U G') (fr : frm2 h h') (hr' : rows4 h') : MOQ h U K im tx T h' := by
  obtain ⟨W, hW⟩ : ∃ W, h.2 79 = ints 106 W := by
    obtain ⟨_, _, _, _, _, _, _, _, _, _, q, _⟩ := hM
    exact q
  exact MOQ.c3 hM hI' hm' hG' fr.to3 hr' ((fr.2 79 (by omega)).trans hW)
theorem MOQ.c1 (hM : MOI h U K im tx T) {pl le fi : Int32} {G' : Nat → Int32} {z' : ZT} (hI' : caI z') (hm' : mCel h' (b2i im) (nI tx.length) pl le fi G' z') (hG' : GU U G') (fr : frm h h') : MOQ h U K im tx T h' := by
  obtain ⟨⟨F1, r1⟩, ⟨F2, r2⟩, ⟨F3, r3⟩, F4, r4⟩ : rows4 h := by
    obtain ⟨_, _, _, _, _, _, _, _, q, _⟩ := hM
    exact q
  exact MOQ.c2 hM hI' hm' hG' fr.to2 ⟨⟨F1, (fr.2 88 (by omega)).trans r1⟩, ⟨F2, (fr.2 89 (by omega)).trans r2⟩, ⟨F3, (fr.2 90 (by omega)).trans r3⟩, F4, (fr.2 91 (by omega)).trans r4⟩
theorem MOQ.g (hM : MOI h U K im tx T) {G' : Nat → Int32} (hG' : GU V G') : MOQ h V K im tx T (upH h 77 (ints 106 G')) := by
  obtain ⟨pl, le, fi, G, z, hm, hG, hI, hr, hK, hW, hT, hF, hTP⟩ := hM
  exact ⟨(frI.refl _ _ _).up _ (by omega) (by omega), pl, le, fi, G', z, ⟨hm.1, rfl, hm.2.2⟩, hG', hI, hr, hK, hW, hT, hF, hTP⟩
theorem MOQ.n (hM : MOI h U K im tx T) (N : Nat → Int32) : MOQ h U K im tx T (upH h 80 (ints 5 N)) := by
  obtain ⟨pl, le, fi, G, z, hm, hG, hI, hr, hK, hW, hT, hF, hTP⟩ := hM
  exact ⟨(frI.refl _ _ _).up _ (by omega) (by omega), pl, le, fi, G, (N, z.2), ⟨hm.1, hm.2.1, rfl, hm.2.2.2⟩, hG, hI, hr, hK, hW, hT, hF, hTP⟩
theorem MOQ.trans {h2 : AH} {U2 K2 U3 K3 : US} {im2 im3 : Bool} {tx2 tx3 : List Nat} {T2 T3 : TPS} (a : MOQ h U2 K2 im2 tx2 T2 h') (b : MOQ h' U3 K3 im3 tx3 T3 h2) : MOQ h U3 K3 im3 tx3 T3 h2 := ⟨a.1.trans b.1, b.2⟩
theorem mo_points (hM : MOI h U K im tx T) (hU : UI U) (v : Int32) : ∃ h', MOQ h (specPoints U v).2 K im tx T h' ∧ Cl 59 160 [.ref 76, .int v] h (some (.int (specPoints U v).1)) h' := by
  obtain ⟨pl, le, fi, G, z, hm, hG, -⟩ := id hM
  obtain ⟨G', a, b⟩ := sp_MO_points 54 hm.1 hm.2.1 hG hU.1 v
  exact ⟨_, MOQ.g hM a, b⟩
theorem mo_make (hM : MOI h U K im tx T) (hU : UI U) (v : Int32) : ∃ h', MOQ h (specMake U v).2 K im tx T h' ∧ Cl 59 166 [.ref 76, .int v] h (some (.int (specMake U v).1)) h' := by
  obtain ⟨pl, le, fi, G, z, hm, hG, -⟩ := id hM
  obtain ⟨G', a, b⟩ := sp_MO_make 55 hm.1 hm.2.1 hG hU.1 hU.2.2.1.2.1 v
  exact ⟨_, MOQ.g hM a, b⟩
theorem mo_comes (hM : MOI h U K im tx T) (hU : UI U) (v : Int32) : ∃ h', MOQ h (specComes U v).2 K im tx T h' ∧ Cl 59 169 [.ref 76, .int v] h (some (.int (specComes U v).1)) h' := by
  obtain ⟨pl, le, fi, G, z, hm, hG, -⟩ := id hM
  obtain ⟨G', a, b⟩ := sp_MO_comes 56 hm.1 hm.2.1 hG hU.1 hU.2.2.1 v
  exact ⟨_, MOQ.g hM a, b⟩
theorem mo_goes (hM : MOI h U K im tx T) (hU : UI U) (v : Int32) : ∃ h', MOQ h (specGoes U v).2 K im tx T h' ∧ Cl 59 171 [.ref 76, .int v] h (some (.int (specGoes U v).1)) h' := by
  obtain ⟨pl, le, fi, G, z, hm, hG, -⟩ := id hM
  obtain ⟨G', a, b⟩ := sp_MO_goes 56 hm.1 hm.2.1 hG hU.1 hU.2.2.1 v
  exact ⟨_, MOQ.g hM a, b⟩
theorem mo_line (hM : MOI h U K im tx T) (hU : UI U) (v w is : Int32) : ∃ h', MOQ h (specLine U v w is).2 K im tx T h' ∧ Cl 59 173 [.ref 76, .int v, .int w, .int is] h (some (.int (specLine U v w is).1)) h' := by
  obtain ⟨pl, le, fi, G, z, hm, hG, -⟩ := id hM
  obtain ⟨G', a, b⟩ := sp_MO_line 56 hm.1 hm.2.1 hG hU.2.2.1.2.1 (by have := hU.2.2.1.1; omega) v w is
  exact ⟨_, MOQ.g hM a, b⟩
theorem mo_choose (hM : MOI h U K im tx T) (hU : UI U) (v : Int32) : ∃ h', MOQ h (specChoose U v).2 K im tx T h' ∧ Cl 59 176 [.ref 76, .int v] h (some (.int (specChoose U v).1)) h' := by
  obtain ⟨pl, le, fi, G, z, hm, hG, -⟩ := id hM
  obtain ⟨z', a, b⟩ := sp_MO_choose 56 hm.1 hm.2.1 hm.2.2.1 hG hU.1 hU.2.2.1 (fun t ht => (hU.2.1.1 t ht).2) v (hU.ch3 v)
  have c := MOQ.n hM z'.2
  exact ⟨_, c.trans (MOQ.g c.2 a), b⟩
theorem mo_drop (hM : MOI h U K im tx T) (hU : UI U) (v : Int32) : ∃ h', MOQ h (specDrop U v).2 K im tx T h' ∧ Cl 59 177 [.ref 76, .int v] h (some (.int (specDrop U v).1)) h' := by
  obtain ⟨pl, le, fi, G, z, hm, hG, -⟩ := id hM
  obtain ⟨G', a, b⟩ := sp_MO_drop 58 hm.1 hm.2.1 hG hU.1 v
  exact ⟨_, MOQ.g hM a, b⟩
theorem mo_feed (hM : MOI h U K im tx T) (v : Int32) : ∃ h', MOQ h U K im (specFeed tx v).2 T h' ∧ Cl 59 178 [.ref 76, .int v] h (some (.int (specFeed tx v).1)) h' := by
  obtain ⟨pl, le, fi, G, z, hm, hG, hI, hr, hK, hW, ⟨Tf, hT, hx⟩, hF, hTP⟩ := hM
  obtain ⟨T', a, b⟩ := sp_MO_feed 58 hm.1 hT hx v
  refine ⟨_, ?_, b⟩
  exact ⟨((frI.refl _ _ _).up _ (by omega) (by omega)).up _ (by omega) (by omega), pl, le, fi, G, z, ⟨rfl, hm.2⟩, hG, hI, hr, hK, hW, ⟨T', rfl, a⟩, hF, hTP⟩
theorem mo_read (hM : MOI h U K im tx T) (hU : UI U) : ∃ h', MOQ h (specRead U tx).2 K im [] T h' ∧ Cl 59 185 [.ref 76] h (some (.int (specRead U tx).1)) h' := by
  obtain ⟨pl, le, fi, G, z, hm, hG, hI, hr, hK, hW, ⟨Tf, hT, hx⟩, ⟨Fg, hF⟩, hTP⟩ := hM
  obtain ⟨_, zz, a, b⟩ := sp_MO_read 52 UI_good hm.1 hm.2.1 hm.2.2.1 hT hF hx hG hU
  refine ⟨_, ?_, b⟩
  exact ⟨((((frI.refl _ _ _).up _ (by omega) (by omega)).up _ (by omega) (by omega)).up _ (by omega) (by omega)).up _ (by omega) (by omega), nI zz.1.1, zz.1.2.1, zz.1.2.2.1, zz.2.1, (zz.2.2, z.2), ⟨rfl, rfl, rfl, hm.2.2.2⟩, a, hI, hr, hK, hW, ⟨Tf, hT, ⟨Nat.zero_le _, (fun x hx => by cases hx), (fun i x hx => by cases hx)⟩⟩, ⟨_, rfl⟩, hTP⟩
theorem mo_family (hM : MOI h U K im tx T) (v : Int32) : Cl 59 186 [.ref 76, .int v] h (some (.int (famR U.2.1 v))) h := by
  obtain ⟨pl, le, fi, G, z, hm, hG, -⟩ := hM
  exact sp_MO_family 59 hm.1 hm.2.1 hG.2.1 v
theorem mo_of (hM : MOI h U K im tx T) (hU : UI U) (v w : Int32) : Cl 59 191 [.ref 76, .int v, .int w] h (some (.int (ofR U.1 U.2.1 v w))) h := by
  obtain ⟨pl, le, fi, G, z, hm, hG, -⟩ := hM
  exact sp_MO_of 56 hm.1 hm.2.1 hU.2.2.1.2.1 hG.1 hG.2.1 hU.2.2.1.b0 v w
theorem mo_part (hM : MOI h U K im tx T) (hU : UI U) (v w : Int32) : Cl 59 192 [.ref 76, .int v, .int w] h (some (.int (partR U.1 U.2.1 v w))) h := by
  obtain ⟨pl, le, fi, G, z, hm, hG, -⟩ := hM
  exact sp_MO_part 57 hm.1 hm.2.1 hU.2.2.1.2.1 hG.1 hG.2.1 v w
theorem mo_told (hM : MOI h U K im tx T) (hU : UI U) (v : Int32) : ∃ h', MOQ h U K im tx T h' ∧ Cl 59 211 [.ref 76, .int v] h (some (.int (toldR U v))) h' := by
  obtain ⟨pl, le, fi, G, z, hm, hG, hI, hr, -⟩ := id hM
  obtain ⟨z', h', a, b, c, d, e⟩ := sp_MO_told 50 hm hG hU.1 hU.2.1 hU.2.2.1 hU.FG.2.1 hI hU.FG.2.2.1.1 hr v
  exact ⟨h', MOQ.c2 hM a b hG c d, e⟩
theorem mo_chosen (hM : MOI h U K im tx T) (hU : UI U) (v : Int32) : Cl 59 212 [.ref 76, .int v] h (some (.int (chosenR U.2.2.2.1 v))) h := by
  obtain ⟨pl, le, fi, G, z, hm, hG, -⟩ := hM
  exact sp_MO_chosen 59 hm.1 hm.2.1 hG.2.2.2.1.1 hG.2.2.2.1.2 hU.1.1 v
theorem mo_nests (hM : MOI h U K im tx T) (hU : UI U) (v : Int32) : ∃ h', MOQ h U K im tx T h' ∧ Cl 59 213 [.ref 76, .int v] h (some (.int (nestsR U.1 U.2.1 v))) h' := by
  obtain ⟨pl, le, fi, G, z, hm, hG, hI, hr, -⟩ := id hM
  obtain ⟨z', h', a, b, c, d⟩ := sp_MO_nests 51 hm hU.2.2.1.2.1 hU.2.2.1.1 hG.1 hG.2.1 hU.FG.2.1 hI v
  exact ⟨h', MOQ.c1 hM a b hG c, d⟩
theorem mo_risen (hM : MOI h U K im tx T) (hU : UI U) (v : Int32) : ∃ h', MOQ h U K im tx T h' ∧ Cl 59 214 [.ref 76, .int v] h (some (.int (risenR U.1 U.2.1 v))) h' := by
  obtain ⟨pl, le, fi, G, z, hm, hG, hI, hr, -⟩ := id hM
  obtain ⟨z', h', a, b, c, d⟩ := sp_MO_risen 51 hm hU.2.2.1.2.1 hU.2.2.1.1 hG.1 hG.2.1 hU.FG.2.1 hI hU.FG.2.2.1.1 v
  exact ⟨h', MOQ.c1 hM a b hG c, d⟩
theorem mo_at (hM : MOI h U K im tx T) (hU : UI U) (v w : Int32) : ∃ h', MOQ h U K im tx T h' ∧ Cl 59 215 [.ref 76, .int v, .int w] h (some (.int (atR U.1 U.2.1 v w))) h' := by
  obtain ⟨pl, le, fi, G, z, hm, hG, hI, hr, -⟩ := id hM
  obtain ⟨z', h', a, b, c, d⟩ := sp_MO_at 50 hm hU.2.2.1.2.1 hU.2.2.1.1 hG.1 hG.2.1 hU.FG.2.1 hI v w
  exact ⟨h', MOQ.c1 hM a b hG c, d⟩
theorem mo_set (hM : MOI h U K im tx T) (hU : UI U) (v w : Int32) : ∃ h', MOQ h U K im tx T h' ∧ Cl 59 216 [.ref 76, .int v, .int w] h (some (.int (setR U.1 U.2.1 v w))) h' := by
  obtain ⟨pl, le, fi, G, z, hm, hG, hI, hr, -⟩ := id hM
  obtain ⟨z', h', a, b, c, d⟩ := sp_MO_set 50 hm hU.2.2.1.2.1 hU.2.2.1.1 hG.1 hG.2.1 hU.FG.2.1 hI v w
  exact ⟨h', MOQ.c1 hM a b hG c, d⟩
theorem mo_flip (hM : MOI h U K im tx T) (hU : UI U) (v w : Int32) : ∃ h', MOQ h U K im tx T h' ∧ Cl 59 217 [.ref 76, .int v, .int w] h (some (.int (flipR U.1 U.2.1 v w))) h' := by
  obtain ⟨pl, le, fi, G, z, hm, hG, hI, hr, -⟩ := id hM
  obtain ⟨z', h', a, b, c, d⟩ := sp_MO_flip 50 hm hU.2.2.1.2.1 hU.2.2.1.1 hG.1 hG.2.1 hU.FG.2.1 hI hU.FG.2.2.1.1 v w
  exact ⟨h', MOQ.c1 hM a b hG c, d⟩
theorem mo_corner (hM : MOI h U K im tx T) (hU : UI U) (v w : Int32) : ∃ h', MOQ h U K im tx T h' ∧ Cl 59 218 [.ref 76, .int v, .int w] h (some (.int (cornerR U.1 U.2.1 v w))) h' := by
  obtain ⟨pl, le, fi, G, z, hm, hG, hI, hr, -⟩ := id hM
  obtain ⟨z', h', a, b, c, d, e⟩ := sp_MO_corner 50 hm hU.2.2.1.2.1 hU.2.2.1.1 hG.1 hG.2.1 hU.FG.2.1 hI hU.FG.2.2.1.1 hr v w
  exact ⟨h', MOQ.c2 hM a b hG c d, e⟩
theorem mo_steps (hM : MOI h U K im tx T) (hU : UI U) (v w : Int32) : ∃ h', MOQ h U K im tx T h' ∧ Cl 59 219 [.ref 76, .int v, .int w] h (some (.int (stepsR U.1 U.2.1 v w))) h' := by
  obtain ⟨pl, le, fi, G, z, hm, hG, hI, hr, -⟩ := id hM
  obtain ⟨z', h', a, b, c, d, e⟩ := sp_MO_steps 50 hm hU.2.2.1.2.1 hU.2.2.1.1 hG.1 hG.2.1 hU.FG.2.1 hI hU.FG.2.2.1.1 hr v w
  exact ⟨h', MOQ.c2 hM a b hG c d, e⟩
theorem mo_face (hM : MOI h U K im tx T) (hU : UI U) (v w : Int32) : ∃ h', MOQ h U K im tx T h' ∧ Cl 59 221 [.ref 76, .int v, .int w] h (some (.int (faceR U.1 U.2.1 v w))) h' := by
  obtain ⟨pl, le, fi, G, z, hm, hG, hI, hr, -⟩ := id hM
  obtain ⟨z', h', a, b, c, d⟩ := sp_MO_face 50 hm hU.2.2.1.2.1 hU.2.2.1.1 hG.1 hG.2.1 hU.FG.2.1 hI v w
  exact ⟨h', MOQ.c1 hM a b hG c, d⟩
theorem mo_leads (hM : MOI h U K im tx T) (hU : UI U) (v : Int32) : ∃ h', MOQ h U K im tx T h' ∧ Cl 59 225 [.ref 76, .int v] h (some (.int (leadsR U.1 U.2.1 v))) h' := by
  obtain ⟨pl, le, fi, G, z, hm, hG, hI, hr, -⟩ := id hM
  obtain ⟨z', h', a, b, c, d, e⟩ := sp_MO_leads 51 hm hU.2.2.1.2.1 hU.2.2.1.1 hG.1 hG.2.1 hU.FG.2.1 hI hr v
  exact ⟨h', MOQ.c2 hM a b hG c d, e⟩
theorem mo_see (hM : MOI h U K im tx T) (hU : UI U) (v w : Int32) : ∃ h', MOQ h (specSee U v w).2 K im tx T h' ∧ Cl 59 226 [.ref 76, .int v, .int w] h (some (.int (specSee U v w).1)) h' := by
  obtain ⟨pl, le, fi, G, z, hm, hG, -⟩ := id hM
  obtain ⟨G', a, b⟩ := sp_MO_see 58 hm.1 hm.2.1 hG hU.1 v w
  exact ⟨_, MOQ.g hM a, b⟩
theorem mo_fits (hM : MOI h U K im tx T) (hU : UI U) : ∃ h', MOQ h U K im tx T h' ∧ Cl 59 228 [.ref 76] h (some (.int (fitsR U))) h' := by
  obtain ⟨pl, le, fi, G, z, hm, hG, hI, hr, hK, ⟨W, hW⟩, -⟩ := id hM
  obtain ⟨h', ⟨G', z', W', a, b, c, d, e, f⟩, g⟩ := sp_MO_fits 50 hm hG hU.1 hU.2.1 hU.2.2.1.2.1 hU.2.2.1.1 (fun c _ => c120_of (Fam.make hU.2.2.1.1 hU.2.2.1.2.1 c)) hW hI hr
  exact ⟨h', MOQ.c3 hM c a b d e f, g⟩
theorem mo_odds (hM : MOI h U K im tx T) (hU : UI U) (v w : Int32) : ∃ h', MOQ h U K im tx T h' ∧ Cl 59 230 [.ref 76, .int v, .int w] h (some (.long (oddsR U.1 U.2.1 v w))) h' := by
  obtain ⟨pl, le, fi, G, z, hm, hG, hI, hr, -⟩ := id hM
  obtain ⟨z', h', a, b, c, d, e⟩ := sp_MO_odds 34 hm hU.2.2.1.2.1 hU.2.2.1.1 hG.1 hG.2.1 hU.FG.2.1 hI hr v w
  exact ⟨h', MOQ.c2 hM a b hG c d, e⟩
theorem mo_mean (hM : MOI h U K im tx T) (hU : UI U) (v w : Int32) : ∃ h', MOQ h U K im tx T h' ∧ Cl 59 231 [.ref 76, .int v, .int w] h (some (.long (meanR U.1 U.2.1 v w))) h' := by
  obtain ⟨pl, le, fi, G, z, hm, hG, hI, hr, -⟩ := id hM
  obtain ⟨z', h', a, b, c, d⟩ := sp_MO_mean 34 hm hU.2.2.1.2.1 hU.2.2.1.1 hG.1 hG.2.1 hU.FG.2.1 hI hU.FG.2.2.2.2.2.1 v w
  exact ⟨h', MOQ.c1 hM a b hG c, d⟩
theorem mo_event (hM : MOI h U K im tx T) (hU : UI U) (v w : Int32) : ∃ h', MOQ h (specEvent U v w).2 K im tx T h' ∧ Cl 59 232 [.ref 76, .int v, .int w] h (some (.int (specEvent U v w).1)) h' := by
  obtain ⟨pl, le, fi, G, z, hm, hG, -⟩ := id hM
  obtain ⟨G', a, b⟩ := sp_MO_event 57 hm.1 hm.2.1 hG hU.1 hU.2.2.1.2.1 v w
  exact ⟨_, MOQ.g hM a, b⟩
theorem mo_after (hM : MOI h U K im tx T) (hU : UI U) (v : Int32) : ∃ h', MOQ h U K im tx T h' ∧ Cl 59 234 [.ref 76, .int v] h (some (.int (afterR U v))) h' := by
  obtain ⟨pl, le, fi, G, z, hm, hG, hI, hr, hK, ⟨W, hW⟩, -⟩ := id hM
  obtain ⟨h', ⟨G', z', W', a, b, c, d, e, f⟩, g⟩ := sp_MO_after 50 UI_goodE hm hG hU hU.2.1 hW hI hr v
  exact ⟨h', MOQ.c3 hM c a b d e f, g⟩
theorem mo_book (hM : MOI h U K im tx T) (hU : UI U) (v w : Int32) : ∃ h', MOQ h (specBook U v w).2 K im tx T h' ∧ Cl 59 235 [.ref 76, .int v, .int w] h (some (.int (specBook U v w).1)) h' := by
  obtain ⟨pl, le, fi, G, z, hm, hG, -⟩ := id hM
  obtain ⟨G', a, b⟩ := sp_MO_book 57 hm.1 hm.2.1 hG hU.1 hU.2.2.1.2.1 v w
  exact ⟨_, MOQ.g hM a, b⟩
theorem mo_looked (hM : MOI h U K im tx T) (hU : UI U) : Cl 59 236 [.ref 76] h (some (.int (lkF U.2.1 U.2.2.2.2.2.2 0))) h := by
  obtain ⟨pl, le, fi, G, z, hm, hG, -⟩ := hM
  exact sp_MO_looked 59 hm.1 hm.2.1 hG hU.1 hU.2.1
theorem mo_judge (hM : MOI h U K im tx T) (hU : UI U) (hok : TPok T) (t i : Int32) : Cl 59 239 [.ref 76, .int t, .int i] h (some (.int (judgeR T U.2.1 t i))) h := by
  obtain ⟨pl, le, fi, G, z, hm, hG, _, _, _, _, _, _, Sf, Zf, If, hs, hz, hi, hTP⟩ := hM
  exact sp_MO_judge 57 hm.1 hm.2.1 hs hz hi hG.2.1 hU.2.2.1.b0 hTP hok t i
theorem mo_image (hM : MOI h U K im tx T) (hU : UI U) : ∃ h', MOQ h U U true tx T h' ∧ Cl 59 240 [.ref 76] h (some (.int (nI (els U.2.1).length))) h' := by
  obtain ⟨pl, le, fi, G, z, hm, hG, hI, hr, ⟨Kf, hK, hKG⟩, hW, hT, hF, hTP⟩ := hM
  obtain ⟨K', a, b⟩ := sp_MO_image 58 hm.1 hm.2.1 hK hG hU.1 hU.2.2.1.b0
  refine ⟨_, ?_, b⟩
  exact ⟨((frI.refl _ _ _).up _ (by omega) (by omega)).up _ (by omega) (by omega), pl, le, fi, G, z, ⟨rfl, hm.2⟩, hG, hI, hr, ⟨K', rfl, fun _ => a⟩, hW, hT, hF, hTP⟩
theorem mo_undo0 (hM : MOI h U K false tx T) : Cl 59 241 [.ref 76] h (some (.int (-3))) h := by
  obtain ⟨pl, le, fi, G, z, hm, hG, -⟩ := hM
  exact sp_MO_undo0 59 hm.1
theorem mo_undo1 (hM : MOI h U K true tx T) (hU : UI K) : ∃ h', MOQ h K K true tx T h' ∧ Cl 59 241 [.ref 76] h (some (.int (nI (els K.2.1).length))) h' := by
  obtain ⟨pl, le, fi, G, z, hm, hG, hI, hr, ⟨Kf, hK, hKG⟩, -⟩ := id hM
  obtain ⟨G', a, b⟩ := sp_MO_undo1 58 hm.1 hm.2.1 hK (hKG rfl) hU.1 hU.2.2.1.b0
  exact ⟨_, MOQ.g hM a, b⟩
theorem mo_count (hM : MOI h U K im tx T) (v : Int32) : Cl 59 242 [.ref 76, .int v] h (some (.int (countR U tx.length v))) h := by
  obtain ⟨pl, le, fi, G, z, hm, hG, -⟩ := hM
  exact sp_MO_count 59 hm.1 hm.2.1 hG v
theorem mo_tape (hM : MOI h U K im tx T) (hok : TPok T) (t o n : Int32) : ∃ h', MOQ h U K im tx (specTape T t o n).2 h' ∧ Cl 59 243 [.ref 76, .int t, .int o, .int n] h (some (.int (specTape T t o n).1)) h' := by
  obtain ⟨pl, le, fi, G, z, hm, hG, hI, hr, hK, hW, hT, hF, Sf, Zf, If, hs, hz, hi, hTP⟩ := hM
  obtain ⟨zz, a, b⟩ := sp_MO_tape 57 hm.1 hs hz hi hTP hok t o n
  refine ⟨_, ?_, b⟩
  exact ⟨(((frI.refl _ _ _).up _ (by omega) (by omega)).up _ (by omega) (by omega)).up _ (by omega) (by omega), pl, le, fi, G, z, hm, hG, hI, hr, hK, hW, hT, hF, zz.1, zz.2.1, zz.2.2, rfl, rfl, rfl, a⟩
theorem mo_item (hM : MOI h U K im tx T) (hok : TPok T) (t i : Int32) (v : Int64) : ∃ h', MOQ h U K im tx (specItem T t i v).2 h' ∧ Cl 59 245 [.ref 76, .int t, .int i, .long v] h (some (.int (specItem T t i v).1)) h' := by
  obtain ⟨pl, le, fi, G, z, hm, hG, hI, hr, hK, hW, hT, hF, Sf, Zf, If, hs, hz, hi, hTP⟩ := hM
  obtain ⟨If', a, b⟩ := sp_MO_item 57 hm.1 hs hz hi hTP hok t i v
  refine ⟨_, ?_, b⟩
  exact ⟨(frI.refl _ _ _).up _ (by omega) (by omega), pl, le, fi, G, z, hm, hG, hI, hr, hK, hW, hT, hF, Sf, Zf, If', hs, hz, rfl, a⟩
theorem mo_peek (hM : MOI h U K im tx T) (hok : TPok T) (t i : Int32) : Cl 59 246 [.ref 76, .int t, .int i] h (some (.long (peekR T t i))) h := by
  obtain ⟨pl, le, fi, G, z, hm, hG, _, _, _, _, _, _, Sf, Zf, If, hs, hz, hi, hTP⟩ := hM
  exact sp_MO_peek 57 hm.1 hz hi hTP hok t i
theorem mo_shift (hM : MOI h U K im tx T) (hok : TPok T) (t i o j n : Int32) : ∃ h', MOQ h U K im tx (specShift T t i o j n).2 h' ∧ Cl 59 247 [.ref 76, .int t, .int i, .int o, .int j, .int n] h (some (.int (specShift T t i o j n).1)) h' := by
  obtain ⟨pl, le, fi, G, z, hm, hG, hI, hr, hK, hW, hT, hF, Sf, Zf, If, hs, hz, hi, hTP⟩ := hM
  obtain ⟨If', a, b⟩ := sp_MO_shift 57 hm.1 hs hz hi hTP hok t i o j n
  refine ⟨_, ?_, b⟩
  exact ⟨(frI.refl _ _ _).up _ (by omega) (by omega), pl, le, fi, G, z, hm, hG, hI, hr, hK, hW, hT, hF, Sf, Zf, If', hs, hz, rfl, a⟩
end
