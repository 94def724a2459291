/-! ONE INSTRUCTION OF THE ABSTRACT MACHINE, AND A BLOCK OF THEM -/
/-- an instruction with what a program found for it: class, slot or target; the kind of a field; a constant -/
abbrev RI : Type := Instr × Nat × Nat × Nat × Int32
def ld (l : List (Option Value)) (i : Nat) : Option Value := match l[i]? with
  | some (some v) => some v
  | _ => none
def isW (v : Option Value) : Bool := match v with
  | some (.long _) => true
  | some (.double _) => true
  | _ => false
def sto (l : List (Option Value)) (i : Nat) (v : Value) : Option (List (Option Value)) := match isW (ld l (i - 1)) with
  | true => none
  | false => some (l.set i (some v))
def lnI : Instr → Nat
  | .bipush _ => 2
  | .sipush _ => 3
  | .ldc _ => 2
  | .ldc_w _ => 3
  | .iload _ => 2
  | .aload _ => 2
  | .lload _ => 2
  | .istore _ => 2
  | .astore _ => 2
  | .lstore _ => 2
  | .iinc _ _ => 3
  | .goto _ => 3
  | .getfield _ => 3
  | .putfield _ => 3
  | _ => 1
def nxI (pc : Nat) (r : RI) : Nat := match r.1 with
  | .goto _ => r.2.1
  | i => pc + lnI i
def juS (x y : Int32) : Int32 := (x.toUInt32 >>> (y.toUInt32 &&& Int32.toUInt32 31)).toInt32
def jB (x : Int32) : Int32 := x.toInt8.toInt32
def jC (x : Int32) : Int32 := (x.toUInt32 % 65536).toInt32
def jLs (x : Int64) (y : Int32) : Int64 := x <<< (y.toInt64 &&& 63)
def bop : Instr → Option (Int32 → Int32 → Int32)
  | .iadd => some (fun x y => x + y)
  | .isub => some (fun x y => x - y)
  | .imul => some (fun x y => x * y)
  | .iand => some (fun x y => x &&& y)
  | .ior => some (fun x y => x ||| y)
  | .ixor => some (fun x y => x ^^^ y)
  | .ishl => some (fun x y => x <<< (y &&& 31))
  | .ishr => some (fun x y => x >>> (y &&& 31))
  | .iushr => some (fun x y => juS x y)
  | _ => none
abbrev SS : Type := List (Option Value) × List Value × List ce
def ldI (l : List (Option Value)) (i : Nat) (st : List Value) (hs : List ce) : Option SS := match ld l i with
  | some (.int x) => some (l, .int x :: st, hs)
  | _ => none
def ldA (l : List (Option Value)) (i : Nat) (st : List Value) (hs : List ce) : Option SS := match ld l i with
  | some (.ref x) => some (l, .ref x :: st, hs)
  | _ => none
def ldL (l : List (Option Value)) (i : Nat) (st : List Value) (hs : List ce) : Option SS := match ld l i with
  | some (.long x) => some (l, .long x :: st, hs)
  | _ => none
def stI (l : List (Option Value)) (i : Nat) (st : List Value) (hs : List ce) : Option SS := match st with
  | .int x :: r => match sto l i (.int x) with
    | some l' => some (l', r, hs)
    | none => none
  | _ => none
def stA (l : List (Option Value)) (i : Nat) (st : List Value) (hs : List ce) : Option SS := match st with
  | .ref x :: r => match sto l i (.ref x) with
    | some l' => some (l', r, hs)
    | none => none
  | _ => none
def stL (l : List (Option Value)) (i : Nat) (st : List Value) (hs : List ce) : Option SS := match st with
  | .long x :: r => match sto l i (.long x) with
    | some l' => some (l'.set (i + 1) none, r, hs)
    | none => none
  | _ => none
def inc (l : List (Option Value)) (i : Nat) (v : Int32) (st : List Value) (hs : List ce) : Option SS := match ld l i with
  | some (.int x) => match sto l i (.int (x + v)) with
    | some l' => some (l', st, hs)
    | none => none
  | _ => none
def getF (a b : Nat) (l : List (Option Value)) (st : List Value) (hs : List ce) : Option SS := match st with
  | .ref h :: r => match hs[h]? with
    | some (.inr (ci, fs)) => match Nat.beq ci a with
      | true => match fs[b]? with
        | some v => some (l, v :: r, hs)
        | none => none
      | false => none
    | _ => none
  | _ => none
def okF (k : Nat) (v : Value) : Bool := match k, v with
  | 0, .int _ => true
  | 1, .ref _ => true
  | 2, .int x => decide (x = 0) || decide (x = 1)
  | _, _ => false
def putF (a b k : Nat) (l : List (Option Value)) (st : List Value) (hs : List ce) : Option SS := match st with
  | v :: .ref h :: r => match hs[h]? with
    | some (.inr (ci, fs)) => match Nat.beq ci a, okF k v, Nat.blt b fs.length with
      | true, true, true => some (l, r, hs.set h (.inr (ci, fs.set b v)))
      | _, _, _ => none
    | _ => none
  | _ => none
def alen (l : List (Option Value)) (st : List Value) (hs : List ce) : Option SS := match st with
  | .ref h :: r => match hs[h]? with
    | some (.inl (t, x)) => match Nat.blt t 5 with
      | true => some (l, .int (Int32.ofNat x.1) :: r, hs)
      | false => none
    | _ => none
  | _ => none
def bin (f : Int32 → Int32 → Int32) (l : List (Option Value)) (st : List Value) (hs : List ce) : Option SS := match st with
  | .int y :: .int x :: r => some (l, .int (f x y) :: r, hs)
  | _ => none
def un (f : Int32 → Int32) (l : List (Option Value)) (st : List Value) (hs : List ce) : Option SS := match st with
  | .int x :: r => some (l, .int (f x) :: r, hs)
  | _ => none
def dup1 (l : List (Option Value)) (st : List Value) (hs : List ce) : Option SS := match st with
  | .int x :: r => some (l, .int x :: .int x :: r, hs)
  | .ref x :: r => some (l, .ref x :: .ref x :: r, hs)
  | _ => none
def dup22 (l : List (Option Value)) (st : List Value) (hs : List ce) : Option SS := match st with
  | .int y :: .ref x :: r => some (l, .int y :: .ref x :: .int y :: .ref x :: r, hs)
  | .int y :: .int x :: r => some (l, .int y :: .int x :: .int y :: .int x :: r, hs)
  | _ => none
def pop1 (l : List (Option Value)) (st : List Value) (hs : List ce) : Option SS := match st with
  | .int _ :: r => some (l, r, hs)
  | .ref _ :: r => some (l, r, hs)
  | _ => none
def lad (l : List (Option Value)) (st : List Value) (hs : List ce) : Option SS := match st with
  | .long y :: .long x :: r => some (l, .long (x + y) :: r, hs)
  | _ => none
def lsh (l : List (Option Value)) (st : List Value) (hs : List ce) : Option SS := match st with
  | .int y :: .long x :: r => some (l, .long (jLs x y) :: r, hs)
  | _ => none
def lcm (l : List (Option Value)) (st : List Value) (hs : List ce) : Option SS := match st with
  | .long y :: .long x :: r => some (l, .int (lg_cmp x y) :: r, hs)
  | _ => none
def stp (q : RI) (l : List (Option Value)) (st : List Value) (hs : List ce) : Option SS := match q.1 with
  | .iconst _ => some (l, .int q.2.2.2.2 :: st, hs)
  | .bipush _ => some (l, .int q.2.2.2.2 :: st, hs)
  | .sipush _ => some (l, .int q.2.2.2.2 :: st, hs)
  | .ldc _ => some (l, .int q.2.2.2.2 :: st, hs)
  | .ldc_w _ => some (l, .int q.2.2.2.2 :: st, hs)
  | .lconst n => some (l, .long (Int64.ofNat n.val) :: st, hs)
  | .iload i => ldI l i st hs
  | .iload_n i => ldI l i.val st hs
  | .aload i => ldA l i st hs
  | .aload_n i => ldA l i.val st hs
  | .lload i => ldL l i st hs
  | .lload_n i => ldL l i.val st hs
  | .istore i => stI l i st hs
  | .istore_n i => stI l i.val st hs
  | .astore i => stA l i st hs
  | .astore_n i => stA l i.val st hs
  | .lstore_n i => stL l i.val st hs
  | .iinc i _ => inc l i q.2.2.2.2 st hs
  | .goto _ => some (l, st, hs)
  | .getfield _ => getF q.2.1 q.2.2.1 l st hs
  | .putfield _ => putF q.2.1 q.2.2.1 q.2.2.2.1 l st hs
  | .arraylength => alen l st hs
  | .i2b => un jB l st hs
  | .i2c => un jC l st hs
  | .dup => dup1 l st hs
  | .dup2 => dup22 l st hs
  | .pop => pop1 l st hs
  | .ladd => lad l st hs
  | .lshl => lsh l st hs
  | .lcmp => lcm l st hs
  | i => match bop i with
    | some f => bin f l st hs
    | none => none
def kindF (t : FieldType) : Nat := match t with
  | .int => 0
  | .object _ => 1
  | .array _ => 1
  | .boolean => 2
  | _ => 9
def okI (M : MD) (pc : Nat) (q : RI) : Bool := decide (decode M.2.2.1 pc = .ok (q.1, lnI q.1)) && match q.1 with
  | .iconst n => decide (Int32.ofInt n = q.2.2.2.2)
  | .bipush n => decide ((Int8.ofInt n).toInt32 = q.2.2.2.2)
  | .sipush n => decide ((Int16.ofInt n).toInt32 = q.2.2.2.2)
  | .ldc i => (csT.getD M.1 []).any (fun x => decide (x.1 = i) && decide (x.2.1 = q.2.2.2.2))
  | .ldc_w i => (csT.getD M.1 []).any (fun x => decide (x.1 = i) && decide (x.2.1 = q.2.2.2.2))
  | .istore i => decide (i < M.2.2.2.1)
  | .istore_n i => decide (i.val < M.2.2.2.1)
  | .astore i => decide (i < M.2.2.2.1)
  | .astore_n i => decide (i.val < M.2.2.2.1)
  | .lstore_n i => decide (i.val + 1 < M.2.2.2.1)
  | .iinc _ n => decide (Int32.ofInt n = q.2.2.2.2)
  | .goto off => decide ((pc : Int) + off = (q.2.1 : Int))
  | .getfield i => decide (M.1 < 16) && (flT.getD M.1 []).any (fun x => decide (x.1 = i) && (decide (x.2.1 = q.2.1) && decide (x.2.2.1 = q.2.2.1)))
  | .putfield i => decide (M.1 < 16) && ((flT.getD M.1 []).any (fun x => decide (x.1 = i) && (decide (x.2.1 = q.2.1) && decide (x.2.2.1 = q.2.2.1))) && (decide (kindF (clY q.2.1 q.2.2.1) = q.2.2.2.1) && (decide (((clD q.2.1).2.1 q.2.2.1).2.2.2 = false) || (decide (M.2.1.name = "<init>") && decide (((clD q.2.1).2.1 q.2.2.1).1 = ownL.getD M.1 "")))))
  | _ => true
def okB (M : MD) : Nat → List RI → Bool
  | _, [] => true
  | pc, q :: qs => okI M pc q && okB M (nxI pc q) qs
def runB : List RI → List (Option Value) → List Value → List ce → Option SS
  | [], l, st, hs => some (l, st, hs)
  | q :: qs, l, st, hs => match stp q l st hs with
    | some (l', st', hs') => runB qs l' st' hs'
    | none => none
def endB : Nat → List RI → Nat
  | pc, [] => pc
  | pc, q :: qs => endB (nxI pc q) qs
