/-! WHAT IS CHECKED of each row of a code table -/
noncomputable def gtb : List Cond := lw_tbl.filter goodWord
noncomputable def wAt (i : Nat) (w : Cond) : Bool := decide (lw_tbl[i]? = some w) && goodWord w
theorem wAt_mem {i : Nat} {w : Cond} (h : wAt i w = true) : w ∈ gtb := by
  simp only [wAt, Bool.and_eq_true, decide_eq_true_eq] at h
  exact List.mem_filter.mpr ⟨List.mem_of_getElem? h.1, h.2⟩
theorem gtb_tbl {w : Cond} (h : w ∈ gtb) : w ∈ lw_tbl := (List.mem_filter.mp h).1
theorem gtb_good : GoodIn lw_tbl gtb := fun w h => ⟨gtb_tbl h, good_of_word (List.mem_filter.mp h).2⟩
theorem gtb_self : GoodIn gtb gtb := fun w h => ⟨h, good_of_word (List.mem_filter.mp h).2⟩
noncomputable def bpc (mi j : Nat) : Option Nat := ((mt mi).1[j]?).map Prod.fst
noncomputable def fallT (mi j bp n : Nat) : Bool := decide (bpc mi j = some (bp + n))
noncomputable def jumpT (mi t bp : Nat) (off : Int) : Bool := match bpc mi t with
  | some q => decide ((bp : Int) + off = (q : Int))
  | none => false
def hd0 (hs : List Nat) (k : Nat) : Nat := hs.getD k 0
noncomputable def clN (ci : Nat) : String := (clT.getD ci ("", fun _ => ("", "", "", false), 0)).1
def clF (ci : Nat) : u_T := (clT.getD ci ("", fun _ => ("", "", "", false), 0)).2.1
def clS (ci : Nat) : Nat := (clT.getD ci ("", fun _ => ("", "", "", false), 0)).2.2
def stN (a : Nat) : String := if a = 0 then "HAVING" else "TENS"
noncomputable def nstW : List Cond := [.methodLinkNest "NestedBodies" 11 ⟨"NestedBodies$Setup", "<init>", "()V"⟩ "NestedBodies", .methodLinkNest "NestedBodies$Body" 38 ⟨"NestedBodies$Meetings", "<init>", "()V"⟩ "NestedBodies", .methodLinkNest "NestedBodies" 45 ⟨"NestedBodies$Text", "<init>", "()V"⟩ "NestedBodies", .methodLinkNest "NestedBodies" 56 ⟨"NestedBodies$Tape", "<init>", "()V"⟩ "NestedBodies", .methodLinkNest "NestedBodies$Family" 61 ⟨"NestedBodies", "within", "(I)I"⟩ "NestedBodies", .methodLinkNest "NestedBodies$Family" 71 ⟨"NestedBodies", "leastOf", "(I)I"⟩ "NestedBodies", .methodLinkNest "NestedBodies$Family" 64 ⟨"NestedBodies", "around", "(I)I"⟩ "NestedBodies", .methodLinkNest "NestedBodies$Body" 97 ⟨"NestedBodies", "leastOf", "(I)I"⟩ "NestedBodies", .fieldLinkNest "NestedBodies$Body" 123 "NestedBodies" "HAVING" "[I" "NestedBodies", .fieldLinkNest "NestedBodies$Family" 67 "NestedBodies" "HAVING" "[I" "NestedBodies", .fieldLinkNest "NestedBodies$Body" 126 "NestedBodies" "TENS" "[I" "NestedBodies", .fieldLinkNest "NestedBodies$Family" 77 "NestedBodies" "TENS" "[I" "NestedBodies"]
theorem nstW_in : ∀ w ∈ nstW, w ∈ lw_tbl := by decide +kernel
noncomputable def lkM (own : String) (ix : Nat) (y : MethodName) (hs : List Nat) : Bool := if hd0 hs 0 = 0 then wAt (hd0 hs 1) (.methodLink own ix y) else decide (Cond.methodLinkNest own ix y "NestedBodies" ∈ nstW)
def npD (y : MethodName) : Option Nat := (parseMethodDescriptor y.desc).map (fun d => d.parameters.length)
noncomputable def ckI (mi : Nat) (own : String) (ins : Instr) (n bp : Nat) (x : Int32) (y : Int64) (j a b : Nat) (ts hs : List Nat) : Bool := match ins with
  | .iconst v => decide (n = 1) && fallT mi j bp n && decide (Int32.ofInt v = x)
  | .bipush v => decide (n = 2) && fallT mi j bp n && decide ((Int8.ofInt v).toInt32 = x)
  | .sipush v => decide (n = 3) && fallT mi j bp n && decide ((Int16.ofInt v).toInt32 = x)
  | .ldc_w ix => decide (n = 3) && fallT mi j bp n && wAt (hd0 hs 0) (.constant own ix x)
  | .lconst v => decide (n = 1) && fallT mi j bp n && decide (Int64.ofNat v.val = y)
  | .ldc2_w ix => decide (n = 3) && fallT mi j bp n && wAt (hd0 hs 0) (.constantLong own ix y)
  | .iload _ => decide (n = 2) && fallT mi j bp n
  | .lload _ => decide (n = 2) && fallT mi j bp n
  | .aload _ => decide (n = 2) && fallT mi j bp n
  | .istore _ => decide (n = 2) && fallT mi j bp n
  | .lstore _ => decide (n = 2) && fallT mi j bp n
  | .astore _ => decide (n = 2) && fallT mi j bp n
  | .iinc _ v => decide (n = 3) && fallT mi j bp n && decide (Int32.ofInt v = x)
  | .goto off => decide (n = 3) && jumpT mi a bp off
  | .ifCond _ off => decide (n = 3) && fallT mi j bp n && jumpT mi a bp off
  | .if_icmp _ off => decide (n = 3) && fallT mi j bp n && jumpT mi a bp off
  | .ifnull off => decide (n = 3) && fallT mi j bp n && jumpT mi a bp off
  | .ifnonnull off => decide (n = 3) && fallT mi j bp n && jumpT mi a bp off
  | .tableswitch df lo hi offs => decide (ts.length = offs.size + 1) && jumpT mi (ts.getD 0 0) bp df && (List.range offs.size).all (fun k => jumpT mi (ts.getD (k + 1) 0) bp (offs.toList.getD k 0)) && decide (hi - lo + 1 = (offs.size : Int))
  | .getfield ix => decide (n = 3) && fallT mi j bp n && decide (a < clS b) && decide (b < 9) && wAt (hd0 hs 0) (.fieldLink own ix (clN b) (clF b a).2.1 (clF b a).2.2.1) && decide ((clF b a).1 = clN b)
  | .putfield ix => decide (n = 3) && fallT mi j bp n && decide (a < clS b) && decide (b < 9) && wAt (hd0 hs 0) (.fieldLink own ix (clN b) (clF b a).2.1 (clF b a).2.2.1) && decide ((clF b a).1 = clN b) && (!(clF b a).2.2.2 || (decide (own = clN b) && decide ((yM mi).name = "<init>")))
  | .getstatic ix => decide (n = 3) && fallT mi j bp n && decide (a < 2) && (if hd0 hs 0 = 0 then wAt (hd0 hs 1) (.fieldLink own ix "NestedBodies" (stN a) "[I") else decide (Cond.fieldLinkNest own ix "NestedBodies" (stN a) "[I" "NestedBodies" ∈ nstW))
  | .new ix => decide (n = 3) && fallT mi j bp n && decide (a < 9) && wAt (hd0 hs 0) (.classLink own ix (clN a))
  | .newarray _ => decide (n = 2) && fallT mi j bp n
  | .anewarray ix => decide (n = 3) && fallT mi j bp n && wAt (hd0 hs 0) (.classLink own ix "NestedBodies$Tape")
  | .invokestatic ix => decide (n = 3) && fallT mi j bp n && (if b = 1000 then wAt (hd0 hs 1) (.methodLink own ix arraycopyName) else if b = 1002 then wAt (hd0 hs 1) (.methodLink own ix Lib.Math.max.name) else if b = 1003 then wAt (hd0 hs 1) (.methodLink own ix Lib.Math.min.name) else decide (b < 1000) && decide (a < 248) && lkM own ix (yM a) hs && wAt (hd0 hs 2) (.static (yM a)) && decide (npD (yM a) = some b))
  | .invokevirtual ix => decide (n = 3) && fallT mi j bp n && decide (a < 248) && decide (ts.getD 0 0 < 9) && decide ((yM a).cls = clN (ts.getD 0 0)) && decide (hd0 hs 0 = 0) && lkM own ix (yM a) hs && wAt (hd0 hs 2) (.instanceMethod (yM a)) && wAt (hd0 hs 3) (.selects (yM a).cls (yM a) (yM a)) && decide ((npD (yM a)).map (· + 1) = some b)
  | .invokespecial ix => decide (n = 3) && fallT mi j bp n && (if b = 1001 then wAt (hd0 hs 1) (.methodLink own ix objectInit) else decide (b < 1000) && decide (a < 248) && decide ((yM a).name = "<init>") && decide ((mt a).2.2 = none) && lkM own ix (yM a) hs && wAt (hd0 hs 2) (.instanceMethod (yM a)) && decide ((npD (yM a)).map (· + 1) = some b))
  | .aastore => decide (n = 1) && fallT mi j bp n && decide (b = 6)
  | .ireturn => decide (n = 1)
  | .lreturn => decide (n = 1)
  | .areturn => decide (n = 1)
  | .return_ => decide (n = 1)
  | _ => decide (n = 1) && fallT mi j bp n
noncomputable def ckE (mi : Nat) (e : EI) (hs : List Nat) : Bool := match e with
  | (bp, ins, x, y, j, a, b, ts) => match decode (byM mi) bp with
    | .ok (i2, n) => decide (i2 = ins) && ckI mi (yM mi).cls ins n bp x y j a b ts hs
    | _ => false
noncomputable def ckL (mi : Nat) : List EI → List (List Nat) → Bool
  | [], _ => true
  | e :: es, hs => ckE mi e (hs.headD []) && ckL mi es hs.tail
/-- a method's own row: its code among the words, its class's name plain, its entry at byte 0 -/
noncomputable def ckY (mi : Nat) : Bool := wAt (hcM mi) (.code (yM mi) (byM mi) (mt mi).2.1 (mt mi).2.2) && Jvm.plainName (yM mi).cls && decide ((mt mi).2.1 ≤ 20) && decide (bpc mi 0 = some 0) && decide ((yM mi).cls ≠ "java/lang/invoke/MethodHandle") && decide ((yM mi).cls ≠ "java/lang/invoke/VarHandle") && ([78, 79, 80, 81, 82, 83, 84, 85, 86, 87, 88, 89, 90] : List Nat).any (fun i => wAt i (.initialized (yM mi).cls))
noncomputable def ckM (mi : Nat) : Bool := ckL mi (mt mi).1 (hnt.getD mi []) && ckY mi
