/-! THE CLASS, 12: Body: its cells; fellows -/
abbrev NF : Type := Nat → Int32
def BoS : Type := (Int32 × Int32 × Int32 × Nat) × NF × NF × NF × NF × NF × NF × NF × NF
def BoS.bs (b : BoS) : Int32 := b.1.1
def BoS.ar (b : BoS) : Int32 := b.1.2.1
def BoS.fa (b : BoS) : Int32 := b.1.2.2.1
def BoS.co (b : BoS) : Nat := b.1.2.2.2
def BoS.Nc (b : BoS) : NF := b.2.1
def BoS.Fe (b : BoS) : NF := b.2.2.1
def BoS.Nr (b : BoS) : NF := b.2.2.2.1
def BoS.Pl (b : BoS) : NF := b.2.2.2.2.1
def BoS.Wo (b : BoS) : NF := b.2.2.2.2.2.1
def BoS.Fl (b : BoS) : NF := b.2.2.2.2.2.2.1
def BoS.Di (b : BoS) : NF := b.2.2.2.2.2.2.2.1
def BoS.Qu (b : BoS) : NF := b.2.2.2.2.2.2.2.2
def BoS.sO (b : BoS) (bs ar fa : Int32) (co : Nat) : BoS := ((bs, ar, fa, co), b.2)
def BoS.sNc (b : BoS) (F : NF) : BoS := (b.1, F, b.2.2.1, b.2.2.2.1, b.2.2.2.2.1, b.2.2.2.2.2.1, b.2.2.2.2.2.2.1, b.2.2.2.2.2.2.2.1, b.2.2.2.2.2.2.2.2)
def BoS.sFe (b : BoS) (F : NF) : BoS := (b.1, b.2.1, F, b.2.2.2.1, b.2.2.2.2.1, b.2.2.2.2.2.1, b.2.2.2.2.2.2.1, b.2.2.2.2.2.2.2.1, b.2.2.2.2.2.2.2.2)
def BoS.sNr (b : BoS) (F : NF) : BoS := (b.1, b.2.1, b.2.2.1, F, b.2.2.2.2.1, b.2.2.2.2.2.1, b.2.2.2.2.2.2.1, b.2.2.2.2.2.2.2.1, b.2.2.2.2.2.2.2.2)
def BoS.sPl (b : BoS) (F : NF) : BoS := (b.1, b.2.1, b.2.2.1, b.2.2.2.1, F, b.2.2.2.2.2.1, b.2.2.2.2.2.2.1, b.2.2.2.2.2.2.2.1, b.2.2.2.2.2.2.2.2)
def BoS.sWo (b : BoS) (F : NF) : BoS := (b.1, b.2.1, b.2.2.1, b.2.2.2.1, b.2.2.2.2.1, F, b.2.2.2.2.2.2.1, b.2.2.2.2.2.2.2.1, b.2.2.2.2.2.2.2.2)
def BoS.sFl (b : BoS) (F : NF) : BoS := (b.1, b.2.1, b.2.2.1, b.2.2.2.1, b.2.2.2.2.1, b.2.2.2.2.2.1, F, b.2.2.2.2.2.2.2.1, b.2.2.2.2.2.2.2.2)
def BoS.sDi (b : BoS) (F : NF) : BoS := (b.1, b.2.1, b.2.2.1, b.2.2.2.1, b.2.2.2.2.1, b.2.2.2.2.2.1, b.2.2.2.2.2.2.1, F, b.2.2.2.2.2.2.2.2)
def BoS.sQu (b : BoS) (F : NF) : BoS := (b.1, b.2.1, b.2.2.1, b.2.2.2.1, b.2.2.2.2.1, b.2.2.2.2.2.1, b.2.2.2.2.2.2.1, b.2.2.2.2.2.2.2.1, F)
abbrev bob (o fam : Nat) (bs ar fa co : Int32) : AC := objA 1 [.ref fam, .int bs, .int ar, .int fa, .int co, .ref (o + 1), .ref (o + 2), .ref (o + 3), .ref (o + 4), .ref (o + 5), .ref (o + 6), .ref (o + 7), .ref (o + 8), .ref (o + 9)]
/-- a body at o, its family, the static rows -/
def BX (h : AH) (o fam n : Nat) (S Lm : Int32) (b : BoS) : Prop := 3 ≤ o ∧ (fam < o ∨ o + 13 < fam) ∧ FamC h fam n S Lm ∧ h.2 0 = ints 5 havF ∧ h.2 1 = ints 5 tenF ∧ h.2 o = bob o fam b.bs b.ar b.fa (nI b.co) ∧ h.2 (o + 1) = ints 5 b.Nc ∧ h.2 (o + 2) = ints 32 b.Fe ∧ h.2 (o + 3) = ints 120 b.Nr ∧ h.2 (o + 4) = ints 120 b.Pl ∧ h.2 (o + 5) = ints 120 b.Wo ∧ h.2 (o + 6) = ints 480 b.Fl ∧ h.2 (o + 7) = ints 120 b.Di ∧ h.2 (o + 8) = ints 120 b.Qu ∧ h.2 (o + 9) = objA 3 [.ref (o + 10), .ref (o + 11), .ref (o + 12), .ref (o + 13)] ∧ (∃ F, h.2 (o + 10) = longs 120 F) ∧ (∃ F, h.2 (o + 11) = longs 120 F) ∧ (∃ F, h.2 (o + 12) = longs 120 F) ∧ (∃ F, h.2 (o + 13) = longs 120 F)
theorem BX.o3 {h : AH} {o fam n : Nat} {S Lm : Int32} {b : BoS} (z : BX h o fam n S Lm b) : 3 ≤ o := z.1
theorem BX.dis {h : AH} {o fam n : Nat} {S Lm : Int32} {b : BoS} (z : BX h o fam n S Lm b) : (fam < o ∨ o + 13 < fam) := z.2.1
theorem BX.fc {h : AH} {o fam n : Nat} {S Lm : Int32} {b : BoS} (z : BX h o fam n S Lm b) : FamC h fam n S Lm := z.2.2.1
theorem BX.hv {h : AH} {o fam n : Nat} {S Lm : Int32} {b : BoS} (z : BX h o fam n S Lm b) : h.2 0 = ints 5 havF := z.2.2.2.1
theorem BX.tn {h : AH} {o fam n : Nat} {S Lm : Int32} {b : BoS} (z : BX h o fam n S Lm b) : h.2 1 = ints 5 tenF := z.2.2.2.2.1
theorem BX.ob {h : AH} {o fam n : Nat} {S Lm : Int32} {b : BoS} (z : BX h o fam n S Lm b) : h.2 o = bob o fam b.bs b.ar b.fa (nI b.co) := z.2.2.2.2.2.1
theorem BX.nc {h : AH} {o fam n : Nat} {S Lm : Int32} {b : BoS} (z : BX h o fam n S Lm b) : h.2 (o + 1) = ints 5 b.Nc := z.2.2.2.2.2.2.1
theorem BX.fe {h : AH} {o fam n : Nat} {S Lm : Int32} {b : BoS} (z : BX h o fam n S Lm b) : h.2 (o + 2) = ints 32 b.Fe := z.2.2.2.2.2.2.2.1
theorem BX.nr {h : AH} {o fam n : Nat} {S Lm : Int32} {b : BoS} (z : BX h o fam n S Lm b) : h.2 (o + 3) = ints 120 b.Nr := z.2.2.2.2.2.2.2.2.1
theorem BX.pl {h : AH} {o fam n : Nat} {S Lm : Int32} {b : BoS} (z : BX h o fam n S Lm b) : h.2 (o + 4) = ints 120 b.Pl := z.2.2.2.2.2.2.2.2.2.1
theorem BX.wo {h : AH} {o fam n : Nat} {S Lm : Int32} {b : BoS} (z : BX h o fam n S Lm b) : h.2 (o + 5) = ints 120 b.Wo := z.2.2.2.2.2.2.2.2.2.2.1
theorem BX.fl {h : AH} {o fam n : Nat} {S Lm : Int32} {b : BoS} (z : BX h o fam n S Lm b) : h.2 (o + 6) = ints 480 b.Fl := z.2.2.2.2.2.2.2.2.2.2.2.1
theorem BX.di {h : AH} {o fam n : Nat} {S Lm : Int32} {b : BoS} (z : BX h o fam n S Lm b) : h.2 (o + 7) = ints 120 b.Di := z.2.2.2.2.2.2.2.2.2.2.2.2.1
theorem BX.qu {h : AH} {o fam n : Nat} {S Lm : Int32} {b : BoS} (z : BX h o fam n S Lm b) : h.2 (o + 8) = ints 120 b.Qu := z.2.2.2.2.2.2.2.2.2.2.2.2.2.1
theorem BX.me {h : AH} {o fam n : Nat} {S Lm : Int32} {b : BoS} (z : BX h o fam n S Lm b) : h.2 (o + 9) = objA 3 [.ref (o + 10), .ref (o + 11), .ref (o + 12), .ref (o + 13)] := z.2.2.2.2.2.2.2.2.2.2.2.2.2.2.1
theorem BX.l0 {h : AH} {o fam n : Nat} {S Lm : Int32} {b : BoS} (z : BX h o fam n S Lm b) : (∃ F, h.2 (o + 10) = longs 120 F) := z.2.2.2.2.2.2.2.2.2.2.2.2.2.2.2.1
theorem BX.l1 {h : AH} {o fam n : Nat} {S Lm : Int32} {b : BoS} (z : BX h o fam n S Lm b) : (∃ F, h.2 (o + 11) = longs 120 F) := z.2.2.2.2.2.2.2.2.2.2.2.2.2.2.2.2.1
theorem BX.l2 {h : AH} {o fam n : Nat} {S Lm : Int32} {b : BoS} (z : BX h o fam n S Lm b) : (∃ F, h.2 (o + 12) = longs 120 F) := z.2.2.2.2.2.2.2.2.2.2.2.2.2.2.2.2.2.1
theorem BX.l3 {h : AH} {o fam n : Nat} {S Lm : Int32} {b : BoS} (z : BX h o fam n S Lm b) : (∃ F, h.2 (o + 13) = longs 120 F) := z.2.2.2.2.2.2.2.2.2.2.2.2.2.2.2.2.2.2
section
variable {h h' : AH} {o fam n : Nat} {S Lm : Int32} {b : BoS}
theorem FamC.fr {a c : Nat} (hF : FamC h fam n S Lm) (x : frI a c h h') (hd : fam < a ∨ c < fam) : FamC h' fam n S Lm := ⟨hF.1, (x.2 fam (by omega)).trans hF.2⟩
/-- the body's cells, one of them new -/
theorem BX.up (hB : BX h o fam n S Lm b) {k : Nat} {c : AC} {b' : BoS} (hk : k ≤ 8) (hc : ∀ h2 : AH, h2 = upH h (o + k) c → h2.2 o = bob o fam b'.bs b'.ar b'.fa (nI b'.co) ∧ h2.2 (o + 1) = ints 5 b'.Nc ∧ h2.2 (o + 2) = ints 32 b'.Fe ∧ h2.2 (o + 3) = ints 120 b'.Nr ∧ h2.2 (o + 4) = ints 120 b'.Pl ∧ h2.2 (o + 5) = ints 120 b'.Wo ∧ h2.2 (o + 6) = ints 480 b'.Fl ∧ h2.2 (o + 7) = ints 120 b'.Di ∧ h2.2 (o + 8) = ints 120 b'.Qu) : BX (upH h (o + k) c) o fam n S Lm b' := by
  obtain ⟨c0, c1, c2, c3, c4, c5, c6, c7, c8⟩ := hc _ rfl
  have h3 := hB.o3
  have hd := hB.dis
  obtain ⟨F0, e0⟩ := hB.l0
  obtain ⟨F1, e1⟩ := hB.l1
  obtain ⟨F2, e2⟩ := hB.l2
  obtain ⟨F3, e3⟩ := hB.l3
  exact ⟨h3, hd, ⟨hB.fc.1, (upH_ne _ _ (by omega)).trans hB.fc.2⟩, (upH_ne _ _ (by omega)).trans hB.hv, (upH_ne _ _ (by omega)).trans hB.tn, c0, c1, c2, c3, c4, c5, c6, c7, c8, (upH_ne _ _ (by omega)).trans hB.me, ⟨F0, (upH_ne _ _ (by omega)).trans e0⟩, ⟨F1, (upH_ne _ _ (by omega)).trans e1⟩, ⟨F2, (upH_ne _ _ (by omega)).trans e2⟩, ⟨F3, (upH_ne _ _ (by omega)).trans e3⟩⟩
theorem BX.uob (hB : BX h o fam n S Lm b) (bs ar fa : Int32) (co : Nat) : BX (upH h o (bob o fam bs ar fa (nI co))) o fam n S Lm (b.sO bs ar fa co) :=
  hB.up (k := 0) (by omega) (fun h2 e2 => (by
  subst e2
  have zob := BX.ob hB
  have znc := BX.nc hB
  have zfe := BX.fe hB
  have znr := BX.nr hB
  have zpl := BX.pl hB
  have zwo := BX.wo hB
  have zfl := BX.fl hB
  have zdi := BX.di hB
  have zqu := BX.qu hB
  refine ⟨?_, ?_, ?_, ?_, ?_, ?_, ?_, ?_, ?_⟩
  all_goals first
    | exact upH_at _ _ _
    | exact (upH_ne _ _ (by omega)).trans zob
    | exact (upH_ne _ _ (by omega)).trans znc
    | exact (upH_ne _ _ (by omega)).trans zfe
    | exact (upH_ne _ _ (by omega)).trans znr
    | exact (upH_ne _ _ (by omega)).trans zpl
    | exact (upH_ne _ _ (by omega)).trans zwo
    | exact (upH_ne _ _ (by omega)).trans zfl
    | exact (upH_ne _ _ (by omega)).trans zdi
    | exact (upH_ne _ _ (by omega)).trans zqu))
theorem BX.unc (hB : BX h o fam n S Lm b) (F : Nat → Int32) : BX (upH h (o + 1) (ints 5 F)) o fam n S Lm (b.sNc F) := hB.up (by omega) (fun h2 e2 => (by
  subst e2
  have zob := BX.ob hB
  have znc := BX.nc hB
  have zfe := BX.fe hB
  have znr := BX.nr hB
  have zpl := BX.pl hB
  have zwo := BX.wo hB
  have zfl := BX.fl hB
  have zdi := BX.di hB
  have zqu := BX.qu hB
  refine ⟨?_, ?_, ?_, ?_, ?_, ?_, ?_, ?_, ?_⟩
  all_goals first
    | exact upH_at _ _ _
    | exact (upH_ne _ _ (by omega)).trans zob
    | exact (upH_ne _ _ (by omega)).trans znc
    | exact (upH_ne _ _ (by omega)).trans zfe
    | exact (upH_ne _ _ (by omega)).trans znr
    | exact (upH_ne _ _ (by omega)).trans zpl
    | exact (upH_ne _ _ (by omega)).trans zwo
    | exact (upH_ne _ _ (by omega)).trans zfl
    | exact (upH_ne _ _ (by omega)).trans zdi
    | exact (upH_ne _ _ (by omega)).trans zqu))
theorem BX.ufe (hB : BX h o fam n S Lm b) (F : Nat → Int32) : BX (upH h (o + 2) (ints 32 F)) o fam n S Lm (b.sFe F) := hB.up (by omega) (fun h2 e2 => (by
  subst e2
  have zob := BX.ob hB
  have znc := BX.nc hB
  have zfe := BX.fe hB
  have znr := BX.nr hB
  have zpl := BX.pl hB
  have zwo := BX.wo hB
  have zfl := BX.fl hB
  have zdi := BX.di hB
  have zqu := BX.qu hB
  refine ⟨?_, ?_, ?_, ?_, ?_, ?_, ?_, ?_, ?_⟩
  all_goals first
    | exact upH_at _ _ _
    | exact (upH_ne _ _ (by omega)).trans zob
    | exact (upH_ne _ _ (by omega)).trans znc
    | exact (upH_ne _ _ (by omega)).trans zfe
    | exact (upH_ne _ _ (by omega)).trans znr
    | exact (upH_ne _ _ (by omega)).trans zpl
    | exact (upH_ne _ _ (by omega)).trans zwo
    | exact (upH_ne _ _ (by omega)).trans zfl
    | exact (upH_ne _ _ (by omega)).trans zdi
    | exact (upH_ne _ _ (by omega)).trans zqu))
theorem BX.unr (hB : BX h o fam n S Lm b) (F : Nat → Int32) : BX (upH h (o + 3) (ints 120 F)) o fam n S Lm (b.sNr F) := hB.up (by omega) (fun h2 e2 => (by
  subst e2
  have zob := BX.ob hB
  have znc := BX.nc hB
  have zfe := BX.fe hB
  have znr := BX.nr hB
  have zpl := BX.pl hB
  have zwo := BX.wo hB
  have zfl := BX.fl hB
  have zdi := BX.di hB
  have zqu := BX.qu hB
  refine ⟨?_, ?_, ?_, ?_, ?_, ?_, ?_, ?_, ?_⟩
  all_goals first
    | exact upH_at _ _ _
    | exact (upH_ne _ _ (by omega)).trans zob
    | exact (upH_ne _ _ (by omega)).trans znc
    | exact (upH_ne _ _ (by omega)).trans zfe
    | exact (upH_ne _ _ (by omega)).trans znr
    | exact (upH_ne _ _ (by omega)).trans zpl
    | exact (upH_ne _ _ (by omega)).trans zwo
    | exact (upH_ne _ _ (by omega)).trans zfl
    | exact (upH_ne _ _ (by omega)).trans zdi
    | exact (upH_ne _ _ (by omega)).trans zqu))
theorem BX.upl (hB : BX h o fam n S Lm b) (F : Nat → Int32) : BX (upH h (o + 4) (ints 120 F)) o fam n S Lm (b.sPl F) := hB.up (by omega) (fun h2 e2 => (by
  subst e2
  have zob := BX.ob hB
  have znc := BX.nc hB
  have zfe := BX.fe hB
  have znr := BX.nr hB
  have zpl := BX.pl hB
  have zwo := BX.wo hB
  have zfl := BX.fl hB
  have zdi := BX.di hB
  have zqu := BX.qu hB
  refine ⟨?_, ?_, ?_, ?_, ?_, ?_, ?_, ?_, ?_⟩
  all_goals first
    | exact upH_at _ _ _
    | exact (upH_ne _ _ (by omega)).trans zob
    | exact (upH_ne _ _ (by omega)).trans znc
    | exact (upH_ne _ _ (by omega)).trans zfe
    | exact (upH_ne _ _ (by omega)).trans znr
    | exact (upH_ne _ _ (by omega)).trans zpl
    | exact (upH_ne _ _ (by omega)).trans zwo
    | exact (upH_ne _ _ (by omega)).trans zfl
    | exact (upH_ne _ _ (by omega)).trans zdi
    | exact (upH_ne _ _ (by omega)).trans zqu))
theorem BX.uwo (hB : BX h o fam n S Lm b) (F : Nat → Int32) : BX (upH h (o + 5) (ints 120 F)) o fam n S Lm (b.sWo F) := hB.up (by omega) (fun h2 e2 => (by
  subst e2
  have zob := BX.ob hB
  have znc := BX.nc hB
  have zfe := BX.fe hB
  have znr := BX.nr hB
  have zpl := BX.pl hB
  have zwo := BX.wo hB
  have zfl := BX.fl hB
  have zdi := BX.di hB
  have zqu := BX.qu hB
  refine ⟨?_, ?_, ?_, ?_, ?_, ?_, ?_, ?_, ?_⟩
  all_goals first
    | exact upH_at _ _ _
    | exact (upH_ne _ _ (by omega)).trans zob
    | exact (upH_ne _ _ (by omega)).trans znc
    | exact (upH_ne _ _ (by omega)).trans zfe
    | exact (upH_ne _ _ (by omega)).trans znr
    | exact (upH_ne _ _ (by omega)).trans zpl
    | exact (upH_ne _ _ (by omega)).trans zwo
    | exact (upH_ne _ _ (by omega)).trans zfl
    | exact (upH_ne _ _ (by omega)).trans zdi
    | exact (upH_ne _ _ (by omega)).trans zqu))
theorem BX.ufl (hB : BX h o fam n S Lm b) (F : Nat → Int32) : BX (upH h (o + 6) (ints 480 F)) o fam n S Lm (b.sFl F) := hB.up (by omega) (fun h2 e2 => (by
  subst e2
  have zob := BX.ob hB
  have znc := BX.nc hB
  have zfe := BX.fe hB
  have znr := BX.nr hB
  have zpl := BX.pl hB
  have zwo := BX.wo hB
  have zfl := BX.fl hB
  have zdi := BX.di hB
  have zqu := BX.qu hB
  refine ⟨?_, ?_, ?_, ?_, ?_, ?_, ?_, ?_, ?_⟩
  all_goals first
    | exact upH_at _ _ _
    | exact (upH_ne _ _ (by omega)).trans zob
    | exact (upH_ne _ _ (by omega)).trans znc
    | exact (upH_ne _ _ (by omega)).trans zfe
    | exact (upH_ne _ _ (by omega)).trans znr
    | exact (upH_ne _ _ (by omega)).trans zpl
    | exact (upH_ne _ _ (by omega)).trans zwo
    | exact (upH_ne _ _ (by omega)).trans zfl
    | exact (upH_ne _ _ (by omega)).trans zdi
    | exact (upH_ne _ _ (by omega)).trans zqu))
theorem BX.udi (hB : BX h o fam n S Lm b) (F : Nat → Int32) : BX (upH h (o + 7) (ints 120 F)) o fam n S Lm (b.sDi F) := hB.up (by omega) (fun h2 e2 => (by
  subst e2
  have zob := BX.ob hB
  have znc := BX.nc hB
  have zfe := BX.fe hB
  have znr := BX.nr hB
  have zpl := BX.pl hB
  have zwo := BX.wo hB
  have zfl := BX.fl hB
  have zdi := BX.di hB
  have zqu := BX.qu hB
  refine ⟨?_, ?_, ?_, ?_, ?_, ?_, ?_, ?_, ?_⟩
  all_goals first
    | exact upH_at _ _ _
    | exact (upH_ne _ _ (by omega)).trans zob
    | exact (upH_ne _ _ (by omega)).trans znc
    | exact (upH_ne _ _ (by omega)).trans zfe
    | exact (upH_ne _ _ (by omega)).trans znr
    | exact (upH_ne _ _ (by omega)).trans zpl
    | exact (upH_ne _ _ (by omega)).trans zwo
    | exact (upH_ne _ _ (by omega)).trans zfl
    | exact (upH_ne _ _ (by omega)).trans zdi
    | exact (upH_ne _ _ (by omega)).trans zqu))
theorem BX.uqu (hB : BX h o fam n S Lm b) (F : Nat → Int32) : BX (upH h (o + 8) (ints 120 F)) o fam n S Lm (b.sQu F) := hB.up (by omega) (fun h2 e2 => (by
  subst e2
  have zob := BX.ob hB
  have znc := BX.nc hB
  have zfe := BX.fe hB
  have znr := BX.nr hB
  have zpl := BX.pl hB
  have zwo := BX.wo hB
  have zfl := BX.fl hB
  have zdi := BX.di hB
  have zqu := BX.qu hB
  refine ⟨?_, ?_, ?_, ?_, ?_, ?_, ?_, ?_, ?_⟩
  all_goals first
    | exact upH_at _ _ _
    | exact (upH_ne _ _ (by omega)).trans zob
    | exact (upH_ne _ _ (by omega)).trans znc
    | exact (upH_ne _ _ (by omega)).trans zfe
    | exact (upH_ne _ _ (by omega)).trans znr
    | exact (upH_ne _ _ (by omega)).trans zpl
    | exact (upH_ne _ _ (by omega)).trans zwo
    | exact (upH_ne _ _ (by omega)).trans zfl
    | exact (upH_ne _ _ (by omega)).trans zdi
    | exact (upH_ne _ _ (by omega)).trans zqu))
/-- two unlike faces, the lesser first, are a nest -/
def pairB (S : Int32) (a c : Nat) : Bool := if a &&& c = 0 then !bt S (a ||| c) else decide (a ||| c = c)
def felM (S Fc : Int32) (s : Nat) : Int32 := maskOf (fun t => decide (s < t) && (bt Fc s && (bt Fc t && pairB S s t)))
def felK (S Fc : Int32) (s k : Nat) : Int32 := maskOf (fun t => decide (s < t ∧ t < k) && (bt Fc s && (bt Fc t && pairB S s t)))
theorem lc_fellB (d : Nat) (Q : Option Value → AH → Prop) (Fc : Int32) {s : Nat} (hs : s < 32) (kk : ∀ (h2 : AH) (b2 : BoS) (w : Option Value), (w = none ∨ ∃ x : Int32, w = some (.int x)) → frI o (o + 13) h h2 → BX h2 o fam n S Lm b2 → b2 = b.sFe (upd b.Fe s (felM S Fc s)) → R (d + 1) 65 51 [some (.ref o), some (.int Fc), some (.int (nI s)), w] [] h2 Q) : ∀ (m k : Nat) (h2 : AH) (b2 : BoS), k + m = 32 → s < k → frI o (o + 13) h h2 → BX h2 o fam n S Lm b2 → b2 = b.sFe (upd b.Fe s (felK S Fc s k)) → R (d + 1) 65 16 [some (.ref o), some (.int Fc), some (.int (nI s)), some (.int (nI k))] [] h2 Q := by
  have kC9 := co_BO_findFellows
  intro m
  induction m with
  | zero =>
    intro k h2 b2 hk hsk hf hB he
    have : k = 32 := by omega
    subst this
    repeat (refine R_s kC9 rfl rfl ?_)
    refine R_get kC9 rfl (hB.ob) rfl ?_
    refine R_alen kC9 rfl hB.fe (by omega) ?_
    refine R_ge kC9 rfl (rfl) (rfl) (by omega) (by omega) (fun hc => ?_) (fun hc => ?_)
    · refine kk h2 b2 _ (Or.inr ⟨_, rfl⟩) hf hB ?_
      have : felK S Fc s 32 = felM S Fc s := b_ext (fun i hi => by
        unfold felK felM
        rw [maskOf_bt _ hi, maskOf_bt _ hi]
        congr 2
        apply propext
        omega)
      rw [he, this]
    · omega
  | succ m ih =>
    intro k h2 b2 hk hsk hf hB he
    have hk32 : k < 32 := by omega
    have next : ∀ (h3 : AH) (b3 : BoS), frI o (o + 13) h h3 → BX h3 o fam n S Lm b3 → b3 = b.sFe (upd b.Fe s (felK S Fc s (k + 1))) → R (d + 1) 65 49 [some (.ref o), some (.int Fc), some (.int (nI s)), some (.int (nI k))] [] h3 Q := by
      intro h3 b3 q1 q2 q3
      repeat (refine R_s kC9 rfl rfl ?_)
      refine R_g kC9 rfl ?_
      refine (show R (d + 1) 65 16 [some (.ref o), some (.int Fc), some (.int (nI s)), some (.int (nI k + nI 1))] [] h3 Q from ?_)
      rw [nI_add]
      exact ih (k + 1) h3 b3 (by omega) (by omega) q1 q2 q3
    have stay : (bt Fc s && (bt Fc k && pairB S s k)) = false → felK S Fc s k = felK S Fc s (k + 1) := fun q => b_ext (fun i hi => by
      unfold felK
      rw [maskOf_bt _ hi, maskOf_bt _ hi]
      by_cases e : i = k
      · subst e; rw [q]; simp
      · rw [show decide (s < i ∧ i < k) = decide (s < i ∧ i < k + 1) by congr 1; apply propext; omega])
    repeat (refine R_s kC9 rfl rfl ?_)
    refine R_get kC9 rfl (hB.ob) rfl ?_
    refine R_alen kC9 rfl hB.fe (by omega) ?_
    refine R_ge kC9 rfl (rfl) (rfl) (by omega) (by omega) (fun hc => ?_) (fun hc => ?_)
    · omega
    · repeat (refine R_s kC9 rfl rfl ?_)
      refine (show R (d + 1) 65 26 [some (.ref o), some (.int Fc), some (.int (nI s)), some (.int (nI k))] [.int (ushr Fc (nI s) &&& nI 1)] h2 Q from ?_)
      rw [ushr_bt hs]
      refine ZB_eq kC9 rfl (fun hd => ?_) (fun hd => ?_)
      · refine kk h2 b2 _ (Or.inr ⟨_, rfl⟩) hf hB ?_
        have : felK S Fc s k = felM S Fc s := b_ext (fun i hi => by
          unfold felK felM
          rw [maskOf_bt _ hi, maskOf_bt _ hi, hd]
          simp)
        rw [he, this]
      · repeat (refine R_s kC9 rfl rfl ?_)
        refine (show R (d + 1) 65 32 [some (.ref o), some (.int Fc), some (.int (nI s)), some (.int (nI k))] [.int (ushr Fc (nI k) &&& nI 1)] h2 Q from ?_)
        rw [ushr_bt hk32]
        refine ZB_eq kC9 rfl (fun hg => ?_) (fun hg => ?_)
        · exact next h2 b2 hf hB (by rw [he, stay (by rw [hd, hg]; rfl)])
        · repeat (refine R_s kC9 rfl rfl ?_)
          refine R_get kC9 rfl (hB.ob) rfl ?_
          repeat (refine R_s kC9 rfl rfl ?_)
          refine R_cv kC9 rfl rfl rfl rfl hB.fc.2 hB.fc.1 (sp_FA_arePair d hB.fc hs hk32) ?_
          refine (show R (d + 1) 65 38 [some (.ref o), some (.int Fc), some (.int (nI s)), some (.int (nI k))] [.int (b2i (pairB S s k))] h2 Q from ?_)
          refine ZB_eq kC9 rfl (fun hi => ?_) (fun hi => ?_)
          · exact next h2 b2 hf hB (by rw [he, stay (by rw [hd, hg, hi]; rfl)])
          · repeat (refine R_s kC9 rfl rfl ?_)
            refine R_get kC9 rfl (hB.ob) rfl ?_
            repeat (refine R_s kC9 rfl rfl ?_)
            refine R_ild kC9 rfl hB.fe (k := s) rfl hs (by omega) ?_
            repeat (refine R_s kC9 rfl rfl ?_)
            have o3 := hB.o3
            refine R_ist kC9 rfl hB.fe (by omega) (k := s) rfl hs (by omega) ?_
            refine next _ _ (hf.up _ (by omega) (by omega)) (hB.ufe _) ?_
            have ef : b2.Fe = upd b.Fe s (felK S Fc s k) := by rw [he]; rfl
            rw [ef, pk_us]
            have e2 : felK S Fc s k ||| (nI 1 <<< (nI k &&& 31)) = felK S Fc s (k + 1) := b_ext (fun i hi2 => by
              unfold felK
              rw [b_or, maskOf_bt _ hi2, maskOf_bt _ hi2, one_bt hk32 hi2]
              by_cases e : i = k
              · subst e; rw [hd, hg, hi]; simp [hsk]
              · rw [decide_eq_false e, Bool.or_false, show decide (s < i ∧ i < k) = decide (s < i ∧ i < k + 1) by congr 1; apply propext; omega])
            refine (show b2.sFe (upd (upd b.Fe s (felK S Fc s k)) s (felK S Fc s k ||| (nI 1 <<< (nI k &&& 31)))) = _ from ?_)
            rw [e2, he]
            have : upd (upd b.Fe s (felK S Fc s k)) s (felK S Fc s (k + 1)) = upd b.Fe s (felK S Fc s (k + 1)) := by
              funext q
              by_cases e : q = s
              · rw [e, pk_us, pk_us]
              · rw [pk_un e, pk_un e, pk_un e]
            rw [this]
            rfl
theorem lc_fellA (d : Nat) (Fc : Int32) : ∀ (m s : Nat) (h2 : AH) (b2 : BoS) (w : Option Value), s + m = 32 → 1 ≤ s → frI o (o + 13) h h2 → BX h2 o fam n S Lm b2 → (∃ F, b2 = b.sFe F ∧ ∀ q, 1 ≤ q → q < s → F q = felM S Fc q) → (w = none ∨ ∃ x : Int32, w = some (.int x)) → R (d + 1) 65 2 [some (.ref o), some (.int Fc), some (.int (nI s)), w] [] h2 (fun r2 h3 => r2 = none ∧ ∃ b3, frI o (o + 13) h h3 ∧ BX h3 o fam n S Lm b3 ∧ ∃ F, b3 = b.sFe F ∧ ∀ q, 1 ≤ q → q < 32 → F q = felM S Fc q) := by
  have kC9 := co_BO_findFellows
  intro m
  induction m with
  | zero =>
    intro s h2 b2 w hs hs1 hf hB he hw
    repeat (refine R_s kC9 rfl rfl ?_)
    refine R_get kC9 rfl (hB.ob) rfl ?_
    refine R_alen kC9 rfl hB.fe (by omega) ?_
    refine R_ge kC9 rfl (rfl) (rfl) (by omega) (by omega) (fun hc => ?_) (fun hc => ?_)
    · obtain ⟨F, e1, e2⟩ := he
      exact R_rv kC9 rfl ⟨rfl, b2, hf, hB, F, e1, fun q q1 q2 => e2 q q1 (by omega)⟩
    · omega
  | succ m ih =>
    intro s h2 b2 w hs hs1 hf hB he hw
    have o3 := hB.o3
    obtain ⟨F, e1, e2⟩ := he
    repeat (refine R_s kC9 rfl rfl ?_)
    refine R_get kC9 rfl (hB.ob) rfl ?_
    refine R_alen kC9 rfl hB.fe (by omega) ?_
    refine R_ge kC9 rfl (rfl) (rfl) (by omega) (by omega) (fun hc => ?_) (fun hc => ?_)
    · omega
    · repeat (refine R_s kC9 rfl rfl ?_)
      refine R_get kC9 rfl (hB.ob) rfl ?_
      repeat (refine R_s kC9 rfl rfl ?_)
      refine R_ist kC9 rfl hB.fe (by omega) (k := s) rfl (by omega) (by omega) ?_
      have e0 : felK S Fc s (s + 1) = 0 := b_ext (fun i hi => by
        unfold felK
        rw [maskOf_bt _ hi, b_0, decide_eq_false (by omega)]; rfl)
      have body : R (d + 1) 65 16 [some (.ref o), some (.int Fc), some (.int (nI s)), some (.int (nI s + nI 1))] [] (upH h2 (o + 2) (ints 32 (upd b2.Fe s (nI 0)))) (fun r2 h3 => r2 = none ∧ ∃ b3, frI o (o + 13) h h3 ∧ BX h3 o fam n S Lm b3 ∧ ∃ F, b3 = b.sFe F ∧ ∀ q, 1 ≤ q → q < 32 → F q = felM S Fc q) := by
        rw [nI_add]
        refine lc_fellB (h := upH h2 (o + 2) (ints 32 (upd b2.Fe s (nI 0)))) (b := b2) d _ Fc (by omega) (fun h3 b3 w3 w3k q1 q2 q3 => ?_) (31 - s) (s + 1) _ _ (by omega) (by omega) (frI.refl _ _ _) (hB.ufe _) (by rw [e0]; rfl)
        repeat (refine R_s kC9 rfl rfl ?_)
        refine R_g kC9 rfl ?_
        refine (show R (d + 1) 65 2 [some (.ref o), some (.int Fc), some (.int (nI s + nI 1)), w3] [] h3 _ from ?_)
        rw [nI_add]
        refine ih (s + 1) h3 b3 w3 (by omega) (by omega) ((hf.up _ (by omega) (by omega)).trans q1) q2 ⟨upd F s (felM S Fc s), ?_, fun q z1 z2 => ?_⟩ w3k
        · rw [q3, e1]; rfl
        · by_cases e : q = s
          · rw [e, pk_us]
          · rw [pk_un e]; exact e2 q z1 (by omega)
      rcases hw with rfl | ⟨x, rfl⟩
      · iterate 4 (refine R_s kC9 rfl rfl ?_)
        exact body
      · iterate 4 (refine R_s kC9 rfl rfl ?_)
        exact body
theorem sp_BO_findFellows (d : Nat) (hB : BX h o fam n S Lm b) (Fc : Int32) : ∃ h', (frI o (o + 13) h h' ∧ ∃ F, BX h' o fam n S Lm (b.sFe F) ∧ ∀ q, 1 ≤ q → q < 32 → F q = felM S Fc q) ∧ Cl (d + 1) 65 [.ref o, .int Fc] h none h' := by
  have kC9 := co_BO_findFellows
  refine Cl_eH kC9 rfl rfl ?_
  iterate 2 (refine R_s kC9 rfl rfl ?_)
  obtain ⟨m, r, h2, hr, e1, b3, e2, e3, F, e4, e5⟩ := lc_fellA (b := b) (h := h) d Fc 31 1 h b none (by omega) (by omega) (frI.refl _ _ _) hB ⟨b.Fe, rfl, fun q q1 q2 => by omega⟩ (Or.inl rfl)
  exact ⟨m, r, h2, hr, e1, e2, F, e4 ▸ e3, e5⟩
end
