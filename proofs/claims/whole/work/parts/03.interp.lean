/-! A SMALL MACHINE over abstract cells: what a method's bytecode does, as a function. Cells are numbered: 0, 1 the two static rows, 2 the script, from 3 on what is made. -/
abbrev AC : Type := (FieldType × vp_A) ⊕ (Nat × List Value)
/-- how many cells, how many slots were made; the cells -/
abbrev AH : Type := (Nat × Nat) × (Nat → AC)
abbrev ALs : Type := List (Option Value)
/-- byte pc, instruction, int constant, long constant, next, a, b, targets -/
abbrev EI : Type := Nat × Instr × Int32 × Int64 × Nat × Nat × Nat × List Nat
def upH (h : AH) (r : Nat) (c : AC) : AH := (h.1, fun q => if q = r then c else h.2 q)
def szA (c : AC) : Nat := match c with
  | .inl (_, n, _) => n
  | .inr (_, fs) => fs.length
def alH (h : AH) (c : AC) : AH := ((h.1.1 + 1, h.1.2 + szA c), fun q => if q = h.1.1 then c else h.2 q)
def okSt (ls : ALs) (i : Nat) : Bool := match i with
  | 0 => true
  | j + 1 => match ls[j]? with
    | some (some (.long _)) => false
    | some (some (.double _)) => false
    | _ => true
def st1 (ls : ALs) (i : Nat) (v : Value) (st : List Value) : Option (ALs × List Value) :=
  if i < ls.length then (if okSt ls i = true then some (ls.set i (some v), st) else none) else none
def st2 (ls : ALs) (i : Nat) (v : Value) (st : List Value) : Option (ALs × List Value) :=
  if i + 1 < ls.length then (if okSt ls i = true then some ((ls.set i (some v)).set (i + 1) none, st) else none) else none
def ldI (ls : ALs) (i : Nat) (st : List Value) : Option (ALs × List Value) := match ls[i]? with
  | some (some (.int x)) => some (ls, .int x :: st)
  | _ => none
def ldL (ls : ALs) (i : Nat) (st : List Value) : Option (ALs × List Value) := match ls[i]? with
  | some (some (.long x)) => some (ls, .long x :: st)
  | _ => none
def ldA (ls : ALs) (i : Nat) (st : List Value) : Option (ALs × List Value) := match ls[i]? with
  | some (some (.ref x)) => some (ls, .ref x :: st)
  | some (some .null) => some (ls, .null :: st)
  | _ => none
def stI (ls : ALs) (i : Nat) (st : List Value) : Option (ALs × List Value) := match st with
  | .int x :: st => st1 ls i (.int x) st
  | _ => none
def stLo (ls : ALs) (i : Nat) (st : List Value) : Option (ALs × List Value) := match st with
  | .long x :: st => st2 ls i (.long x) st
  | _ => none
def stA (ls : ALs) (i : Nat) (st : List Value) : Option (ALs × List Value) := match st with
  | .ref x :: st => st1 ls i (.ref x) st
  | .null :: st => st1 ls i .null st
  | _ => none
def ushr (x y : Int32) : Int32 := (x.toUInt32 >>> (y.toUInt32 &&& Int32.toUInt32 31)).toInt32
def dupS (ls : ALs) (st : List Value) : Option (ALs × List Value) := match st with
  | .int x :: st => some (ls, .int x :: .int x :: st)
  | .ref x :: st => some (ls, .ref x :: .ref x :: st)
  | _ => none
def dup2S (ls : ALs) (st : List Value) : Option (ALs × List Value) := match st with
  | .int x :: .ref r :: st => some (ls, .int x :: .ref r :: .int x :: .ref r :: st)
  | _ => none
def popS (ls : ALs) (st : List Value) : Option (ALs × List Value) := match st with
  | .int _ :: st => some (ls, st)
  | _ => none
def incS (ls : ALs) (i : Nat) (c : Int32) (st : List Value) : Option (ALs × List Value) := match ls[i]? with
  | some (some (.int x)) => st1 ls i (.int (x + c)) st
  | _ => none
def step1 (ins : Instr) (x : Int32) (y : Int64) (ls : ALs) (st : List Value) : Option (ALs × List Value) := match ins with
  | .iconst _ => some (ls, .int x :: st)
  | .bipush _ => some (ls, .int x :: st)
  | .sipush _ => some (ls, .int x :: st)
  | .ldc_w _ => some (ls, .int x :: st)
  | .lconst _ => some (ls, .long y :: st)
  | .ldc2_w _ => some (ls, .long y :: st)
  | .aconst_null => some (ls, .null :: st)
  | .iload i => ldI ls i st
  | .iload_n i => ldI ls i.val st
  | .lload i => ldL ls i st
  | .lload_n i => ldL ls i.val st
  | .aload i => ldA ls i st
  | .aload_n i => ldA ls i.val st
  | .istore i => stI ls i st
  | .istore_n i => stI ls i.val st
  | .lstore i => stLo ls i st
  | .lstore_n i => stLo ls i.val st
  | .astore i => stA ls i st
  | .astore_n i => stA ls i.val st
  | .iinc i _ => incS ls i x st
  | .iadd => (match st with
    | .int b :: .int a :: st => some (ls, .int (a + b) :: st)
    | _ => none)
  | .isub => (match st with
    | .int b :: .int a :: st => some (ls, .int (a - b) :: st)
    | _ => none)
  | .imul => (match st with
    | .int b :: .int a :: st => some (ls, .int (a * b) :: st)
    | _ => none)
  | .iand => (match st with
    | .int b :: .int a :: st => some (ls, .int (a &&& b) :: st)
    | _ => none)
  | .ior => (match st with
    | .int b :: .int a :: st => some (ls, .int (a ||| b) :: st)
    | _ => none)
  | .ixor => (match st with
    | .int b :: .int a :: st => some (ls, .int (a ^^^ b) :: st)
    | _ => none)
  | .ishl => (match st with
    | .int b :: .int a :: st => some (ls, .int (a <<< (b &&& 31)) :: st)
    | _ => none)
  | .ishr => (match st with
    | .int b :: .int a :: st => some (ls, .int (a >>> (b &&& 31)) :: st)
    | _ => none)
  | .iushr => (match st with
    | .int b :: .int a :: st => some (ls, .int (ushr a b) :: st)
    | _ => none)
  | .ineg => (match st with
    | .int a :: st => some (ls, .int (-a) :: st)
    | _ => none)
  | .i2l => (match st with
    | .int a :: st => some (ls, .long a.toInt64 :: st)
    | _ => none)
  | .l2i => (match st with
    | .long a :: st => some (ls, .int a.toInt32 :: st)
    | _ => none)
  | .i2b => (match st with
    | .int a :: st => some (ls, .int a.toInt8.toInt32 :: st)
    | _ => none)
  | .i2s => (match st with
    | .int a :: st => some (ls, .int a.toInt16.toInt32 :: st)
    | _ => none)
  | .lor => (match st with
    | .long b :: .long a :: st => some (ls, .long (a ||| b) :: st)
    | _ => none)
  | .land => (match st with
    | .long b :: .long a :: st => some (ls, .long (a &&& b) :: st)
    | _ => none)
  | .lshl => (match st with
    | .int k :: .long a :: st => some (ls, .long (a <<< (k.toInt64 &&& 63)) :: st)
    | _ => none)
  | .lcmp => (match st with
    | .long b :: .long a :: st => some (ls, .int (lg_cmp a b) :: st)
    | _ => none)
  | .dup => dupS ls st
  | .dup2 => dup2S ls st
  | .pop => popS ls st
  | _ => none
/-- a division: its divisor isn't 0 -/
def stepD (ins : Instr) (st : List Value) : Option (List Value) := match ins with
  | .idiv => (match st with
    | .int y :: .int x :: st => if y = 0 then none else some (.int (x / y) :: st)
    | _ => none)
  | .irem => (match st with
    | .int y :: .int x :: st => if y = 0 then none else some (.int (x - x / y * y) :: st)
    | _ => none)
  | _ => none
def cmpI (c : ClassFile.Cond) (x y : Int32) : Bool := match c with
  | .eq => decide (x = y)
  | .ne => !decide (x = y)
  | .lt => decide (x < y)
  | .ge => decide (y ≤ x)
  | .gt => decide (y < x)
  | .le => decide (x ≤ y)
def stepB (ins : Instr) (st : List Value) : Option (Bool × List Value) := match ins with
  | .goto _ => some (true, st)
  | .ifCond c _ => (match st with
    | .int x :: st => some (cmpI c x 0, st)
    | _ => none)
  | .if_icmp c _ => (match st with
    | .int y :: .int x :: st => some (cmpI c x y, st)
    | _ => none)
  | .ifnull _ => (match st with
    | .ref _ :: st => some (false, st)
    | .null :: st => some (true, st)
    | _ => none)
  | .ifnonnull _ => (match st with
    | .ref _ :: st => some (true, st)
    | .null :: st => some (false, st)
    | _ => none)
  | _ => none
/-- a switch: the default's place stands first -/
def stepW (ins : Instr) (ts : List Nat) (st : List Value) : Option (Nat × List Value) := match ins with
  | .tableswitch _ lo hi _ => (match st with
    | .int x :: st => (if x.toInt < lo ∨ hi < x.toInt then ts[0]? else ts[(x.toInt - lo).toNat + 1]?).map (fun t => (t, st))
    | _ => none)
  | _ => none
def okV (ty : FieldType) (v : Value) : Bool := match ty, v with
  | .int, .int _ => true
  | .long, .long _ => true
  | .boolean, .int x => decide (x = 0 ∨ x = 1)
  | .object _, .ref _ => true
  | .object _, .null => true
  | .array _, .ref _ => true
  | _, _ => false
def rfA (o : Option Nat) : Value := match o with
  | none => .null
  | some a => .ref a
def inB (i : Int32) (n : Nat) : Bool := !(decide (i < 0) || decide (n ≤ i.toNatClampNeg))
/-- field types of the classes, by their numbers -/
abbrev FT : Type := Nat → Nat → FieldType
def stepH (ty : FT) (dv : Nat → List Value) (ins : Instr) (a b : Nat) (st : List Value) (h : AH) : Option (List Value × AH) := match ins with
  | .getfield _ => (match st with
    | .ref r :: st => (match h.2 r with
      | .inr (ci, fs) => if ci = b then (match fs[a]? with
        | some v => some (v :: st, h)
        | none => none) else none
      | _ => none)
    | _ => none)
  | .putfield _ => (match st with
    | v :: .ref r :: st => (match h.2 r with
      | .inr (ci, fs) => if ci = b ∧ 3 ≤ r ∧ a < fs.length ∧ okV (ty b a) v = true then some (st, upH h r (.inr (ci, fs.set a v))) else none
      | _ => none)
    | _ => none)
  | .getstatic _ => some (.ref a :: st, h)
  | .iaload => (match st with
    | .int i :: .ref r :: st => (match h.2 r with
      | .inl (.int, n, .inl f) => if inB i n = true then some (.int (f i.toNatClampNeg) :: st, h) else none
      | _ => none)
    | _ => none)
  | .baload => (match st with
    | .int i :: .ref r :: st => (match h.2 r with
      | .inl (.byte, n, .inl f) => if inB i n = true ∧ 3 ≤ r then some (.int (f i.toNatClampNeg) :: st, h) else none
      | _ => none)
    | _ => none)
  | .laload => (match st with
    | .int i :: .ref r :: st => (match h.2 r with
      | .inl (.long, n, .inr (.inl f)) => if inB i n = true ∧ 3 ≤ r then some (.long (f i.toNatClampNeg) :: st, h) else none
      | _ => none)
    | _ => none)
  | .aaload => (match st with
    | .int i :: .ref r :: st => (match h.2 r with
      | .inl (.object _, n, .inr (.inr (.inr (.inr f)))) => if inB i n = true ∧ 3 ≤ r then some (rfA (f i.toNatClampNeg) :: st, h) else none
      | _ => none)
    | _ => none)
  | .iastore => (match st with
    | .int x :: .int i :: .ref r :: st => (match h.2 r with
      | .inl (.int, n, .inl f) => if inB i n = true ∧ 3 ≤ r then some (st, upH h r (.inl (.int, n, .inl (upd f i.toNatClampNeg x)))) else none
      | _ => none)
    | _ => none)
  | .bastore => (match st with
    | .int x :: .int i :: .ref r :: st => (match h.2 r with
      | .inl (.byte, n, .inl f) => if inB i n = true ∧ 3 ≤ r then some (st, upH h r (.inl (.byte, n, .inl (upd f i.toNatClampNeg (vp_nar .byte x))))) else none
      | _ => none)
    | _ => none)
  | .lastore => (match st with
    | .long x :: .int i :: .ref r :: st => (match h.2 r with
      | .inl (.long, n, .inr (.inl f)) => if inB i n = true ∧ 3 ≤ r then some (st, upH h r (.inl (.long, n, .inr (.inl (vp_updL f i.toNatClampNeg x))))) else none
      | _ => none)
    | _ => none)
  | .aastore => (match st with
    | .ref v :: .int i :: .ref r :: st => (match h.2 r with
      | .inl (.object C, n, .inr (.inr (.inr (.inr f)))) => (match h.2 v with
        | .inr (ci, _) => if inB i n = true ∧ 3 ≤ r ∧ 3 ≤ v ∧ ci = b then some (st, upH h r (.inl (.object C, n, .inr (.inr (.inr (.inr (va_up f i.toNatClampNeg (some v)))))))) else none
        | _ => none)
      | _ => none)
    | _ => none)
  | .arraylength => (match st with
    | .ref r :: st => (match h.2 r with
      | .inl (_, n, _) => if n < 100000 then some (.int (nI n) :: st, h) else none
      | _ => none)
    | _ => none)
  | .new _ => some (Value.ref h.1.1 :: st, alH h (.inr (a, dv a)))
  | .newarray .int => (match st with
    | .int n :: st => if inB n 100000 = true then some (Value.ref h.1.1 :: st, alH h (.inl (.int, n.toNatClampNeg, .inl (fun _ => 0)))) else none
    | _ => none)
  | .newarray .byte => (match st with
    | .int n :: st => if inB n 100000 = true then some (Value.ref h.1.1 :: st, alH h (.inl (.byte, n.toNatClampNeg, .inl (fun _ => 0)))) else none
    | _ => none)
  | .newarray .long => (match st with
    | .int n :: st => if inB n 100000 = true then some (Value.ref h.1.1 :: st, alH h (.inl (.long, n.toNatClampNeg, .inr (.inl (fun _ => 0))))) else none
    | _ => none)
  | .anewarray _ => (match st with
    | .int n :: st => if inB n 100000 = true then some (Value.ref h.1.1 :: st, alH h (.inl (.object "NestedBodies$Tape", n.toNatClampNeg, .inr (.inr (.inr (.inr (fun _ => none))))))) else none
    | _ => none)
  | _ => none
/-- System.arraycopy of longs -/
def stepY (ins : Instr) (b : Nat) (st : List Value) (h : AH) : Option (List Value × AH) := match ins with
  | .invokestatic _ => if b = 1000 then (match st with
    | .int n :: .int dp :: .ref r1 :: .int sp :: .ref r0 :: st => (match h.2 r0 with
      | .inl (.long, n0, .inr (.inl f)) => (match h.2 r1 with
        | .inl (.long, n1, .inr (.inl g)) => if ¬ sp < 0 ∧ ¬ dp < 0 ∧ ¬ n < 0 ∧ sp.toNatClampNeg + n.toNatClampNeg ≤ n0 ∧ dp.toNatClampNeg + n.toNatClampNeg ≤ n1 ∧ 3 ≤ r0 ∧ 3 ≤ r1 ∧ (st.map fun v => v.category).sum ≤ 8 then
            some (st, upH h r1 (.inl (.long, n1, .inr (.inl (va_cpy f g sp.toNatClampNeg dp.toNatClampNeg n.toNatClampNeg))))) else none
        | _ => none)
      | _ => none)
    | _ => none) else none
  | _ => none
def unS (st : List Value) : Nat := (st.map fun v => v.category).sum
/-- a call of an own method: the callee's number a; b: how many arguments with the receiver; ts: the receiver's class -/
def stepC (ins : Instr) (a b : Nat) (ts : List Nat) (st : List Value) (h : AH) : Option (Nat × List Value × List Value) := match ins with
  | .invokestatic _ => if b < 1000 ∧ b ≤ st.length ∧ unS (st.drop b) ≤ 8 then some (a, (st.take b).reverse, st.drop b) else none
  | .invokevirtual _ => if b ≤ st.length ∧ unS (st.drop b) ≤ 8 then (match (st.take b).reverse with
    | .ref r :: av => (match h.2 r with
      | .inr (ci, _) => if ts[0]? = some ci ∧ 3 ≤ r then some (a, .ref r :: av, st.drop b) else none
      | _ => none)
    | _ => none) else none
  | .invokespecial _ => if b < 1000 ∧ b ≤ st.length ∧ unS (st.drop b) ≤ 8 then (match (st.take b).reverse with
    | .ref r :: av => some (a, .ref r :: av, st.drop b)
    | _ => none) else none
  | _ => none
/-- Object's own constructor, Math.max and Math.min -/
def stepO (ins : Instr) (b : Nat) (st : List Value) : Option (List Value) := match ins with
  | .invokestatic _ => (match st with
    | .int y :: .int x :: st => if unS st ≤ 8 then (if b = 1002 then some (.int (if x < y then y else x) :: st) else if b = 1003 then some (.int (if y < x then y else x) :: st) else none) else none
    | _ => none)
  | .invokespecial _ => if b = 1001 then (match st with
    | .ref _ :: st => if unS st ≤ 8 then some st else none
    | _ => none) else none
  | _ => none
def stepR (ret : Option FieldType) (ins : Instr) (st : List Value) : Option (Option Value) := match ins with
  | .ireturn => (match st with
    | [.int x] => (match ret with
      | some .int => some (some (.int x))
      | some .boolean => if x = 0 ∨ x = 1 then some (some (.int x)) else none
      | _ => none)
    | _ => none)
  | .lreturn => (match st with
    | [.long x] => (match ret with
      | some .long => some (some (.long x))
      | _ => none)
    | _ => none)
  | .areturn => (match st with
    | [.ref x] => (match ret with
      | some (.object _) => some (some (.ref x))
      | _ => none)
    | [.null] => (match ret with
      | some (.object _) => some (some .null)
      | _ => none)
    | _ => none)
  | .return_ => (match st with
    | [] => (match ret with
      | none => some none
      | _ => none)
    | _ => none)
  | _ => none
def slA (v : Value) : ALs := match v with
  | .long x => [some (.long x), none]
  | .double x => [some (.double x), none]
  | v => [some v]
def enL (av : List Value) (n : Nat) : ALs := (av.flatMap slA) ++ List.replicate (n - (av.flatMap slA).length) none
/-- a method: its code, its locals, what it answers -/
abbrev MI : Type := List EI × Nat × Option FieldType
def nx (ty : FT) (dv : Nat → List Value) (ret : Option FieldType) (e : EI) (ls : ALs) (st : List Value) (h : AH) : Option ((Nat × ALs × List Value × AH) ⊕ ((Nat × Nat × List Value × List Value) ⊕ (Option Value))) := match e with
  | (_, ins, x, y, j, a, b, ts) => match step1 ins x y ls st with
    | some (ls', st') => some (.inl (j, ls', st', h))
    | none => match stepB ins st with
      | some (c, st') => some (.inl (if c = true then a else j, ls, st', h))
      | none => match stepH ty dv ins a b st h with
        | some (st', h') => some (.inl (j, ls, st', h'))
        | none => match stepC ins a b ts st h with
          | some (k, av, st') => some (.inr (.inl (j, k, av, st')))
          | none => match stepR ret ins st with
            | some r => some (.inr (.inr r))
            | none => match stepD ins st with
              | some st' => some (.inl (j, ls, st', h))
              | none => match stepW ins ts st with
                | some (t, st') => some (.inl (t, ls, st', h))
                | none => match stepO ins b st with
                  | some st' => some (.inl (j, ls, st', h))
                  | none => match stepY ins b st h with
                    | some (st', h') => some (.inl (j, ls, st', h'))
                    | none => none
def run (ty : FT) (dv : Nat → List Value) (mt : Nat → MI) : Nat → Nat → Nat → Nat → ALs → List Value → AH → Option (Option Value × AH)
  | 0, _, _, _, _, _, _ => none
  | n + 1, d, mi, i, ls, st, h => match (mt mi).1[i]? with
    | none => none
    | some e => match nx ty dv (mt mi).2.2 e ls st h with
      | none => none
      | some (.inl (i', ls', st', h')) => run ty dv mt n d mi i' ls' st' h'
      | some (.inr (.inl (j, k, av, st'))) => (match d with
        | 0 => none
        | d' + 1 => if (av.flatMap slA).length ≤ (mt k).2.1 then (match run ty dv mt n d' k 0 (enL av (mt k).2.1) [] h with
          | none => none
          | some (r, h') => run ty dv mt n (d' + 1) mi j ls (r.toList ++ st') h') else none)
      | some (.inr (.inr r)) => some (r, h)
theorem run_mono (ty : FT) (dv : Nat → List Value) (mt : Nat → MI) : ∀ (n d mi i : Nat) (ls : ALs) (st : List Value) (h : AH) (x : Option Value × AH), run ty dv mt n d mi i ls st h = some x → ∀ m, n ≤ m → run ty dv mt m d mi i ls st h = some x := by
  intro n
  induction n with
  | zero => intro d mi i ls st h x hr; cases hr
  | succ n ih =>
    intro d mi i ls st h x hr m hm
    obtain ⟨m, rfl⟩ : ∃ k, m = k + 1 := ⟨m - 1, by omega⟩
    have hm' : n ≤ m := by omega
    unfold run at hr ⊢
    cases he : (mt mi).1[i]? with
    | none => rw [he] at hr; cases hr
    | some e =>
      rw [he] at hr
      dsimp only at hr ⊢
      cases hx : nx ty dv (mt mi).2.2 e ls st h with
      | none => rw [hx] at hr; cases hr
      | some q =>
        rw [hx] at hr
        rcases q with ⟨i', ls', st', h'⟩ | ⟨j, k, av, st'⟩ | r
        · exact ih _ _ _ _ _ _ _ hr m hm'
        · dsimp only at hr ⊢
          cases d with
          | zero => cases hr
          | succ d =>
            dsimp only at hr ⊢
            by_cases hle : (av.flatMap slA).length ≤ (mt k).2.1
            · rw [if_pos hle] at hr ⊢
              cases hc : run ty dv mt n d k 0 (enL av (mt k).2.1) [] h with
              | none => rw [hc] at hr; cases hr
              | some q =>
                rw [hc] at hr
                rw [ih _ _ _ _ _ _ _ hc m hm']
                exact ih _ _ _ _ _ _ _ hr m hm'
            · rw [if_neg hle] at hr
              cases hr
        · exact hr
