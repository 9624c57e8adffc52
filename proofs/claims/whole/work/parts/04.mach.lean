/-! ===== the abstract machine: a heap of numbered cells, one run of a method ===== -/
/-- a cell: an array (kind of its components, length, contents), or an object (class, fields) -/
abbrev xE : Type := (Nat × vp_A) ⊕ (Nat × List Value)
/-- a heap: how many cells, how many slots, how many cells of things thrown, contents; cells from xKb on are constants -/
abbrev xH : Type := Nat × Nat × Nat × (Nat → xE)
abbrev xL : Type := List (Option Value)
/-- what an instruction does: it goes on; it calls; it answers -/
abbrev xA : Type := (Nat × xL × List Value × xH) ⊕ ((Nat × List Value × List Value × Option Nat) ⊕ (Option Value × xH))
def xKb : Nat := 1000000
def xNo : xE := .inr (999, [])
def xPut (h : xH) (a : Nat) (c : xE) : xH := (h.1, h.2.1, h.2.2.1, va_up h.2.2.2 a c)
def xAdd (h : xH) (n : Nat) (c : xE) : xH := (h.1 + 1, h.2.1 + n, h.2.2.1, va_up h.2.2.2 h.1 c)
/-- a store into a local; a long that the store cuts is lost -/
def xIsL (v : Option (Option Value)) : Bool := match v with
  | some (some w) => decide (w.category = 2)
  | _ => false
def xClr (ls : xL) (i : Nat) : xL := if i = 0 then ls else if xIsL (ls[i - 1]?) = true then ls.set (i - 1) none else ls
def xSet (ls : xL) (i : Nat) (v : Value) : Option xL := if i < ls.length then some ((xClr ls i).set i (some v)) else none
def xSet2 (ls : xL) (i : Nat) (v : Value) : Option xL := if i + 1 < ls.length then some (((xClr ls i).set i (some v)).set (i + 1) none) else none
def xNx (pc : Nat) (ls : xL) (st : List Value) (h : xH) : Option xA := some (.inl (pc, ls, st, h))
def xLdI (pc : Nat) (ls : xL) (st : List Value) (h : xH) (i : Nat) : Option xA := match ls[i]? with
  | some (some (.int x)) => xNx pc ls (.int x :: st) h
  | _ => none
def xLdL (pc : Nat) (ls : xL) (st : List Value) (h : xH) (i : Nat) : Option xA := match ls[i]? with
  | some (some (.long x)) => xNx pc ls (.long x :: st) h
  | _ => none
def xLdA (pc : Nat) (ls : xL) (st : List Value) (h : xH) (i : Nat) : Option xA := match ls[i]? with
  | some (some (.ref x)) => xNx pc ls (.ref x :: st) h
  | _ => none
def xStI (pc : Nat) (ls : xL) (st : List Value) (h : xH) (i : Nat) : Option xA := match st with
  | .int x :: r => (xSet ls i (.int x)).bind fun ls' => xNx pc ls' r h
  | _ => none
def xStL (pc : Nat) (ls : xL) (st : List Value) (h : xH) (i : Nat) : Option xA := match st with
  | .long x :: r => (xSet2 ls i (.long x)).bind fun ls' => xNx pc ls' r h
  | _ => none
def xStA (pc : Nat) (ls : xL) (st : List Value) (h : xH) (i : Nat) : Option xA := match st with
  | .ref x :: r => (xSet ls i (.ref x)).bind fun ls' => xNx pc ls' r h
  | _ => none
def xI2 (pc : Nat) (ls : xL) (st : List Value) (h : xH) (f : Int32 → Int32 → Int32) : Option xA := match st with
  | .int y :: .int x :: r => xNx pc ls (.int (f x y) :: r) h
  | _ => none
def xI1 (pc : Nat) (ls : xL) (st : List Value) (h : xH) (f : Int32 → Value) : Option xA := match st with
  | .int x :: r => xNx pc ls (f x :: r) h
  | _ => none
def xID (pc : Nat) (ls : xL) (st : List Value) (h : xH) (f : Int32 → Int32 → Int32) : Option xA := match st with
  | .int y :: .int x :: r => if y = 0 then none else xNx pc ls (.int (f x y) :: r) h
  | _ => none
def xL2 (pc : Nat) (ls : xL) (st : List Value) (h : xH) (f : Int64 → Int64 → Value) : Option xA := match st with
  | .long y :: .long x :: r => xNx pc ls (f x y :: r) h
  | _ => none
def xLD (pc : Nat) (ls : xL) (st : List Value) (h : xH) (f : Int64 → Int64 → Int64) : Option xA := match st with
  | .long y :: .long x :: r => if y = 0 then none else xNx pc ls (.long (f x y) :: r) h
  | _ => none
def xLS (pc : Nat) (ls : xL) (st : List Value) (h : xH) (f : Int64 → Int32 → Int64) : Option xA := match st with
  | .int y :: .long x :: r => xNx pc ls (.long (f x y) :: r) h
  | _ => none
def xL1 (pc : Nat) (ls : xL) (st : List Value) (h : xH) (f : Int64 → Value) : Option xA := match st with
  | .long x :: r => xNx pc ls (f x :: r) h
  | _ => none
def xCm (k : ClassFile.Cond) (x y : Int32) : Bool := match k with
  | .eq => decide (x = y)
  | .ne => !decide (x = y)
  | .lt => decide (x < y)
  | .ge => decide (y ≤ x)
  | .gt => decide (y < x)
  | .le => decide (x ≤ y)
def xJ (pc : Nat) (o : Int) (ls : xL) (st : List Value) (h : xH) : Option xA := if 0 ≤ (pc : Int) + o then xNx ((pc : Int) + o).toNat ls st h else none
/-- an instruction that only reads and writes stack and locals, or jumps -/
def xPure (i : Instr) (pc : Nat) (ls : xL) (st : List Value) (h : xH) : Option xA := match i with
  | .iconst n => xNx (pc + 1) ls (.int (Int32.ofInt n) :: st) h
  | .bipush n => xNx (pc + 2) ls (.int (Int8.ofInt n).toInt32 :: st) h
  | .sipush n => xNx (pc + 3) ls (.int (Int16.ofInt n).toInt32 :: st) h
  | .lconst n => xNx (pc + 1) ls (.long (Int64.ofNat (n : Nat)) :: st) h
  | .iload i => xLdI (pc + 2) ls st h i
  | .iload_n k => xLdI (pc + 1) ls st h k
  | .lload i => xLdL (pc + 2) ls st h i
  | .lload_n k => xLdL (pc + 1) ls st h k
  | .aload i => xLdA (pc + 2) ls st h i
  | .aload_n k => xLdA (pc + 1) ls st h k
  | .istore i => xStI (pc + 2) ls st h i
  | .istore_n k => xStI (pc + 1) ls st h k
  | .lstore i => xStL (pc + 2) ls st h i
  | .lstore_n k => xStL (pc + 1) ls st h k
  | .astore i => xStA (pc + 2) ls st h i
  | .astore_n k => xStA (pc + 1) ls st h k
  | .iinc i n => match ls[i]? with
    | some (some (.int x)) => (xSet ls i (.int (x + Int32.ofInt n))).bind fun ls' => xNx (pc + 3) ls' st h
    | _ => none
  | .iadd => xI2 (pc + 1) ls st h (fun x y => x + y)
  | .isub => xI2 (pc + 1) ls st h (fun x y => x - y)
  | .imul => xI2 (pc + 1) ls st h (fun x y => x * y)
  | .iand => xI2 (pc + 1) ls st h (fun x y => x &&& y)
  | .ior => xI2 (pc + 1) ls st h (fun x y => x ||| y)
  | .ixor => xI2 (pc + 1) ls st h (fun x y => x ^^^ y)
  | .ishl => xI2 (pc + 1) ls st h (fun x y => x <<< (y &&& 31))
  | .ishr => xI2 (pc + 1) ls st h (fun x y => x >>> (y &&& 31))
  | .iushr => xI2 (pc + 1) ls st h (fun x y => (x.toUInt32 >>> (y.toUInt32 &&& Int32.toUInt32 31)).toInt32)
  | .idiv => xID (pc + 1) ls st h (fun x y => x / y)
  | .irem => xID (pc + 1) ls st h (fun x y => x - x / y * y)
  | .ineg => xI1 (pc + 1) ls st h (fun x => .int (-x))
  | .i2l => xI1 (pc + 1) ls st h (fun x => .long x.toInt64)
  | .i2b => xI1 (pc + 1) ls st h (fun x => .int x.toInt8.toInt32)
  | .i2s => xI1 (pc + 1) ls st h (fun x => .int x.toInt16.toInt32)
  | .i2c => xI1 (pc + 1) ls st h (fun x => .int (x.toUInt32 % 65536).toInt32)
  | .l2i => xL1 (pc + 1) ls st h (fun x => .int x.toInt32)
  | .ladd => xL2 (pc + 1) ls st h (fun x y => .long (x + y))
  | .lmul => xL2 (pc + 1) ls st h (fun x y => .long (x * y))
  | .land => xL2 (pc + 1) ls st h (fun x y => .long (x &&& y))
  | .lor => xL2 (pc + 1) ls st h (fun x y => .long (x ||| y))
  | .lxor => xL2 (pc + 1) ls st h (fun x y => .long (x ^^^ y))
  | .lcmp => xL2 (pc + 1) ls st h (fun x y => .int (lg_cmp x y))
  | .ldiv => xLD (pc + 1) ls st h (fun x y => x / y)
  | .lrem => xLD (pc + 1) ls st h (fun x y => x - x / y * y)
  | .lshl => xLS (pc + 1) ls st h (fun x y => x <<< (y.toInt64 &&& 63))
  | .lushr => xLS (pc + 1) ls st h (fun x y => (x.toUInt64 >>> (y.toInt64.toUInt64 &&& Int64.toUInt64 63)).toInt64)
  | .dup => match st with
    | v :: r => if v.category = 1 then xNx (pc + 1) ls (v :: v :: r) h else none
    | _ => none
  | .pop => match st with
    | v :: r => if v.category = 1 then xNx (pc + 1) ls r h else none
    | _ => none
  | .dup_x1 => match st with
    | v :: w :: r => if v.category = 1 ∧ w.category = 1 then xNx (pc + 1) ls (v :: w :: v :: r) h else none
    | _ => none
  | .dup2 => match st with
    | v :: w :: r => if v.category = 1 ∧ w.category = 1 then xNx (pc + 1) ls (v :: w :: v :: w :: r) h else none
    | _ => none
  | .goto o => xJ pc o ls st h
  | .ifCond k o => match st with
    | .int x :: r => if (pc : Int) + o < 0 then none else if xCm k x 0 = true then xNx ((pc : Int) + o).toNat ls r h else xNx (pc + 3) ls r h
    | _ => none
  | .if_icmp k o => match st with
    | .int y :: .int x :: r => if (pc : Int) + o < 0 then none else if xCm k x y = true then xNx ((pc : Int) + o).toNat ls r h else xNx (pc + 3) ls r h
    | _ => none
  | .tableswitch dflt lo hi offs => match st with
    | .int x :: r => if x.toInt < lo ∨ hi < x.toInt then xJ pc dflt ls r h else match offs[(x.toInt - lo).toNat]? with
      | some o => xJ pc o ls r h
      | none => none
    | _ => none
  | .lookupswitch dflt ps => match st with
    | .int x :: r => if (ps.toList.zip (ps.toList.drop 1)).all (fun (a, next) => a.1 < next.1) = true then xJ pc (Op.lookupswitch.offset ps.toList dflt x.toInt) ls r h else none
    | _ => none
  | _ => none
def xFits (t : FieldType) (v : Value) : Bool := decide (narrow t v = v) && fits t v
def xFin (ci k : Nat) : Bool := match vwCl[ci]? with
  | some q => (q.2.1 k).2.2.2
  | none => false
def xIsIn (M : Nat) : Bool := (xNm M).name == "<init>"
def xGetf (M i : Nat) (pc : Nat) (ls : xL) (st : List Value) (h : xH) : Option xA := match st, xFld (xOwn M) i with
  | .ref a :: r, some (ci, k, _) => match h.2.2.2 a with
    | .inr (cj, fs) => if cj = ci then match fs[k]? with
        | some v => xNx (pc + 3) ls (v :: r) h
        | none => none
      else none
    | _ => none
  | _, _ => none
def xPutf (M i : Nat) (pc : Nat) (ls : xL) (st : List Value) (h : xH) : Option xA := match st, xFld (xOwn M) i with
  | v :: .ref a :: r, some (ci, k, ne) => match h.2.2.2 a with
    | .inr (cj, fs) => if cj = ci ∧ k < fs.length ∧ xFits (xTy ci k) v = true ∧ (xFin ci k = false ∨ (ne = 0 ∧ xOwn M = ci ∧ xIsIn M = true)) then xNx (pc + 3) ls r (xPut h a (.inr (ci, fs.set k v))) else none
    | _ => none
  | _, _ => none
/-- an instruction on cells -/
def xCell (i : Instr) (M : Nat) (pc : Nat) (ls : xL) (st : List Value) (h : xH) : Option xA := match i with
  | .getfield i => xGetf M i pc ls st h
  | .putfield i => xPutf M i pc ls st h
  | .getstatic i => match xGst (xOwn M) i with
    | some j => xNx (pc + 3) ls (.ref (xKb + j) :: st) h
    | none => none
  | .ldc i => match xLdc (xOwn M) i with
    | some v => xNx (pc + 2) ls (.int v :: st) h
    | none => match xLds (xOwn M) i with
      | some j => xNx (pc + 2) ls (.ref (xKb + 10 + j) :: st) h
      | none => none
  | .ldc_w i => match xLdc (xOwn M) i with
    | some v => xNx (pc + 3) ls (.int v :: st) h
    | none => match xLds (xOwn M) i with
      | some j => xNx (pc + 3) ls (.ref (xKb + 10 + j) :: st) h
      | none => none
  | .ldc2_w i => match xLd2 (xOwn M) i with
    | some v => xNx (pc + 3) ls (.long v :: st) h
    | none => none
  | .iaload => match st with
    | .int j :: .ref a :: r => match h.2.2.2 a with
      | .inl (t, n, .inl f) => if (t = 0 ∨ (t = 10 ∧ xKb ≤ a)) ∧ ¬ (j < 0 ∨ n ≤ j.toNatClampNeg) then xNx (pc + 1) ls (.int (f j.toNatClampNeg) :: r) h else none
      | _ => none
    | _ => none
  | .iastore => match st with
    | .int x :: .int j :: .ref a :: r => match h.2.2.2 a with
      | .inl (t, n, .inl f) => if t = 0 ∧ ¬ (j < 0 ∨ n ≤ j.toNatClampNeg) then xNx (pc + 1) ls r (xPut h a (.inl (0, n, .inl (upd f j.toNatClampNeg x)))) else none
      | _ => none
    | _ => none
  | .laload => match st with
    | .int j :: .ref a :: r => match h.2.2.2 a with
      | .inl (t, n, .inr (.inl f)) => if t = 1 ∧ ¬ (j < 0 ∨ n ≤ j.toNatClampNeg) then xNx (pc + 1) ls (.long (f j.toNatClampNeg) :: r) h else none
      | _ => none
    | _ => none
  | .lastore => match st with
    | .long x :: .int j :: .ref a :: r => match h.2.2.2 a with
      | .inl (t, n, .inr (.inl f)) => if t = 1 ∧ ¬ (j < 0 ∨ n ≤ j.toNatClampNeg) then xNx (pc + 1) ls r (xPut h a (.inl (1, n, .inr (.inl (vp_updL f j.toNatClampNeg x))))) else none
      | _ => none
    | _ => none
  | .baload => match st with
    | .int j :: .ref a :: r => match h.2.2.2 a with
      | .inl (t, n, .inl f) => if t = 2 ∧ ¬ (j < 0 ∨ n ≤ j.toNatClampNeg) then xNx (pc + 1) ls (.int (f j.toNatClampNeg) :: r) h else none
      | _ => none
    | _ => none
  | .bastore => match st with
    | .int x :: .int j :: .ref a :: r => match h.2.2.2 a with
      | .inl (t, n, .inl f) => if t = 2 ∧ ¬ (j < 0 ∨ n ≤ j.toNatClampNeg) then xNx (pc + 1) ls r (xPut h a (.inl (2, n, .inl (upd f j.toNatClampNeg (x &&& 1))))) else none
      | _ => none
    | _ => none
  | .aaload => match st with
    | .int j :: .ref a :: r => match h.2.2.2 a with
      | .inl (t, n, .inr (.inr (.inr (.inr f)))) => if t = 3 ∧ ¬ (j < 0 ∨ n ≤ j.toNatClampNeg) then match f j.toNatClampNeg with
          | some y => xNx (pc + 1) ls (.ref y :: r) h
          | none => none
        else none
      | _ => none
    | _ => none
  | .aastore => match st with
    | .ref x :: .int j :: .ref a :: r => match h.2.2.2 a, h.2.2.2 x with
      | .inl (t, n, .inr (.inr (.inr (.inr f)))), .inr (ci, _) => if t = 3 ∧ ci = 7 ∧ ¬ (j < 0 ∨ n ≤ j.toNatClampNeg) then xNx (pc + 1) ls r (xPut h a (.inl (3, n, .inr (.inr (.inr (.inr (va_up f j.toNatClampNeg (some x)))))))) else none
      | _, _ => none
    | _ => none
  | .arraylength => match st with
    | .ref a :: r => match h.2.2.2 a with
      | .inl (t, n, _) => if t < 4 ∨ (t = 10 ∧ xKb ≤ a) then xNx (pc + 1) ls (.int (Int32.ofNat n) :: r) h else none
      | _ => none
    | _ => none
  | .newarray t => match st with
    | .int n :: r => if n < 0 ∨ 65536 < n.toNatClampNeg ∨ xKb ≤ h.1 ∨ h.2.2.1 ≠ 0 then none else match t with
      | .int => xNx (pc + 2) ls (.ref h.1 :: r) (xAdd h n.toNatClampNeg (.inl (0, n.toNatClampNeg, .inl (fun _ => 0))))
      | .long => xNx (pc + 2) ls (.ref h.1 :: r) (xAdd h n.toNatClampNeg (.inl (1, n.toNatClampNeg, .inr (.inl (fun _ => 0)))))
      | .boolean => xNx (pc + 2) ls (.ref h.1 :: r) (xAdd h n.toNatClampNeg (.inl (2, n.toNatClampNeg, .inl (fun _ => 0))))
      | _ => none
    | _ => none
  | .anewarray i => match st with
    | .int n :: r => if n < 0 ∨ 65536 < n.toNatClampNeg ∨ xKb ≤ h.1 ∨ h.2.2.1 ≠ 0 then none else match xNew (xOwn M) i with
      | some 7 => xNx (pc + 3) ls (.ref h.1 :: r) (xAdd h n.toNatClampNeg (.inl (3, n.toNatClampNeg, .inr (.inr (.inr (.inr (fun _ => none)))))))
      | _ => none
    | _ => none
  | .new i => match xNew (xOwn M) i with
    | some ci => if ci < 13 then (if xKb ≤ h.1 ∨ h.2.2.1 ≠ 0 then none else xNx (pc + 3) ls (.ref h.1 :: st) (xAdd h (xDef.getD ci []).length (.inr (ci, xDef.getD ci []))))
      else if ci = 99 ∧ st = [] then some (.inr (.inr (some .null, (h.1, h.2.1 + 6, h.2.2.1 + 1, h.2.2.2)))) else none
    | none => none
  | _ => none
def xCat (st : List Value) : Nat := (st.map fun v => v.category).sum
/-- arguments off the stack: the last one on top -/
def xPop : Nat → List Value → List Value → Option (List Value × List Value)
  | 0, acc, st => some (acc, st)
  | n + 1, acc, v :: st => xPop n (v :: acc) st
  | _ + 1, _, [] => none
/-- the first place of a sign in a text -/
def xIx (t : List Int32) (c : Int32) : Int32 := match t.findIdx? (fun y => y == c) with
  | some k => Int32.ofNat k
  | none => -1
/-- calls whose body is the library's -/
def xLib (k : Nat) (pc : Nat) (ls : xL) (st : List Value) (h : xH) : Option xA := match k with
  | 10 => match st with
    | .ref _ :: r => if xCat r ≤ 8 then xNx (pc + 3) ls r h else none
    | _ => none
  | 11 => match st with
    | .int y :: .int x :: r => if xCat r ≤ 8 then xNx (pc + 3) ls (.int (if x < y then y else x) :: r) h else none
    | _ => none
  | 12 => match st with
    | .int y :: .int x :: r => if xCat r ≤ 8 then xNx (pc + 3) ls (.int (if y < x then y else x) :: r) h else none
    | _ => none
  | 13 => match st with
    | .int n :: .int dp :: .ref b :: .int sp :: .ref a :: r => if xCat r ≤ 8 ∧ ¬ sp < 0 ∧ ¬ dp < 0 ∧ ¬ n < 0 then match h.2.2.2 a, h.2.2.2 b with
        | .inl (t, n0, .inl f), .inl (t', n1, .inl g) => if t = 0 ∧ t' = 0 ∧ sp.toNatClampNeg + n.toNatClampNeg ≤ n0 ∧ dp.toNatClampNeg + n.toNatClampNeg ≤ n1 then xNx (pc + 3) ls r (xPut h b (.inl (0, n1, .inl (va_cpy f g sp.toNatClampNeg dp.toNatClampNeg n.toNatClampNeg)))) else none
        | .inl (t, n0, .inr (.inl f)), .inl (t', n1, .inr (.inl g)) => if t = 1 ∧ t' = 1 ∧ sp.toNatClampNeg + n.toNatClampNeg ≤ n0 ∧ dp.toNatClampNeg + n.toNatClampNeg ≤ n1 then xNx (pc + 3) ls r (xPut h b (.inl (1, n1, .inr (.inl (va_cpy f g sp.toNatClampNeg dp.toNatClampNeg n.toNatClampNeg))))) else none
        | _, _ => none
      else none
    | _ => none
  | 14 => match st with
    | .int c :: .ref a :: r => if xCat r ≤ 8 ∧ xKb + 10 ≤ a ∧ a < xKb + 10 + xTxt.length then xNx (pc + 3) ls (.int (xIx (xTxt.getD (a - (xKb + 10)) []) c) :: r) h else none
    | _ => none
  | 15 => match st with
    | .ref a :: r => if xCat r ≤ 8 ∧ xKb + 10 ≤ a ∧ a < xKb + 10 + xTxt.length then xNx (pc + 3) ls (.int (Int32.ofNat (xTxt.getD (a - (xKb + 10)) []).length) :: r) h else none
    | _ => none
  | 16 => match st with
    | .int j :: .ref a :: r => if xCat r ≤ 8 ∧ xKb + 10 ≤ a ∧ a < xKb + 10 + xTxt.length ∧ ¬ (j < 0 ∨ (xTxt.getD (a - (xKb + 10)) []).length ≤ j.toNatClampNeg) then xNx (pc + 3) ls (.int ((xTxt.getD (a - (xKb + 10)) []).getD j.toNatClampNeg 0) :: r) h else none
    | _ => none
  | _ => none
def xIdx (i : Instr) : Option (Nat × Nat) := match i with
  | .invokevirtual j => some (0, j)
  | .invokestatic j => some (1, j)
  | .invokespecial j => some (2, j)
  | _ => none
/-- a call of ours: which way it is called fits what it is -/
def xKind (w k : Nat) : Bool := (w == 0 && (k == 0 || k == 4)) || (w == 1 && (k == 1 || k == 5)) || (w == 2 && (k == 2 || k == 3))
def xKindL (w k : Nat) : Bool := (w == 2 && k == 10) || (w == 1 && (k == 11 || k == 12 || k == 13)) || (w == 0 && (k == 14 || k == 15 || k == 16))
def xRecv (h : xH) (as : List Value) (o : Nat) : Bool := match as with
  | .ref a :: _ => match h.2.2.2 a with
    | .inr (ci, _) => ci == o
    | _ => false
  | _ => false
/-- behind the receiver: ints alone -/
def xInts (as : List Value) : Bool := as.tail.all fun v => match v with
  | .int _ => true
  | _ => false
/-- the law's own calls that catch: the method that they call -/
def xTry (k : Nat) : Option Nat := if k = 17 then some xM_block else if k = 18 then some xM_layer else if k = 19 then some xM_row else none
def xCall (w j M : Nat) (pc : Nat) (ls : xL) (st : List Value) (h : xH) : Option xA := match xMet (xOwn M) j with
  | some (k, N, na) => if xKindL w k = true then xLib k pc ls st h else if xKind w k = true then match xPop (if w = 1 then na else na + 1) [] st with
      | some (as, r) => if xCat r ≤ 8 ∧ (w = 1 ∨ xRecv h as (xOwn N) = true) then some (.inr (.inl (N, as, r, none))) else none
      | none => none
    else match xTry k with
      | some N' => match st with
        | .ref o :: st' => match xPop (na - 1) [] st' with
          | some (as, r) => if w = 1 ∧ xCat r ≤ 8 ∧ xRecv h as (xOwn N') = true ∧ xInts as = true then some (.inr (.inl (N', as, r, some o))) else none
          | none => none
        | _ => none
      | none => none
  | none => none
def xStep (i : Instr) (M : Nat) (pc : Nat) (ls : xL) (st : List Value) (h : xH) : Option xA := match xIdx i with
  | some (w, j) => xCall w j M pc ls st h
  | none => match xPure i pc ls st h with
    | some a => some a
    | none => xCell i M pc ls st h
/-- an answer -/
def xRetI (i : Instr) (M : Nat) (st : List Value) : Option (Option Value) := match i with
  | .return_ => if xRet M = none ∧ st = [] then some none else none
  | .ireturn => match st with
    | [.int v] => match xRet M with
      | some .int => some (some (.int v))
      | some .boolean => if v &&& 1 = v then some (some (.int v)) else none
      | _ => none
    | _ => none
  | .lreturn => match st with
    | [.long v] => match xRet M with
      | some .long => some (some (.long v))
      | _ => none
    | _ => none
  | .areturn => match st with
    | [.ref v] => match xRet M with
      | some (.object _) => some (some (.ref v))
      | _ => none
    | _ => none
  | _ => none
def xArgs (as : List Value) : xL := as.flatMap fun v => if v.category = 2 then [some v, none] else [some v]
def xEntry (M : Nat) (as : List Value) : xL := xArgs as ++ List.replicate (xMaxL M - (xArgs as).length) none
/-- what a call that catches makes of the answer -/
def xCaught (v : Option Value) (o : Nat) (h : xH) : Option (Int32 × xH) := match v with
  | some .null => some (1, h)
  | some (.int x) => match h.2.2.2 o with
    | .inl (t, n, .inr (.inl f)) => if t = 1 ∧ 0 < n then some (0, xPut h o (.inl (1, n, .inr (.inl (vp_updL f 0 x.toInt64))))) else none
    | _ => none
  | some (.long x) => match h.2.2.2 o with
    | .inl (t, n, .inr (.inl f)) => if t = 1 ∧ 0 < n then some (0, xPut h o (.inl (1, n, .inr (.inl (vp_updL f 0 x))))) else none
    | _ => none
  | _ => none
def xLn (i : Instr) (len : Nat) : Bool := match i with
  | .bipush _ => len == 2
  | .iload _ => len == 2
  | .lload _ => len == 2
  | .aload _ => len == 2
  | .istore _ => len == 2
  | .lstore _ => len == 2
  | .astore _ => len == 2
  | .ldc _ => len == 2
  | .newarray _ => len == 2
  | .sipush _ => len == 3
  | .iinc _ _ => len == 3
  | .goto _ => len == 3
  | .ifCond _ _ => len == 3
  | .if_icmp _ _ => len == 3
  | .getfield _ => len == 3
  | .putfield _ => len == 3
  | .getstatic _ => len == 3
  | .ldc_w _ => len == 3
  | .ldc2_w _ => len == 3
  | .anewarray _ => len == 3
  | .new _ => len == 3
  | .invokevirtual _ => len == 3
  | .invokestatic _ => len == 3
  | .invokespecial _ => len == 3
  | .tableswitch _ _ _ _ => true
  | .lookupswitch _ _ => true
  | _ => len == 1
/-- a run: fuel, calls that may stand open, method, place, locals, stack, heap; a thing thrown is answered as null -/
def xRun : Nat → Nat → Nat → Nat → xL → List Value → xH → Option (Option Value × xH)
  | 0, _, _, _, _, _, _ => none
  | n + 1, d, M, pc, ls, st, h => match decode (xCode M) pc with
    | .error _ => none
    | .ok (i, len) => if xLn i len = false then none else match xRetI i M st with
      | some v => some (v, h)
      | none => match xStep i M pc ls st h with
        | some (.inl (pc', ls', st', h')) => xRun n d M pc' ls' st' h'
        | some (.inr (.inl (N, as, r, none))) => match d with
          | 0 => none
          | d' + 1 => if xMaxL N ≤ 40 ∧ (xArgs as).length ≤ xMaxL N then match xRun n d' N 0 (xEntry N as) [] h with
            | some (v, h') => if v = some .null then none else xRun n (d' + 1) M (pc + 3) ls (v.toList ++ r) h'
            | none => none
            else none
        | some (.inr (.inl (N, as, r, some o))) => match d with
          | d' + 2 => if xMaxL N ≤ 40 ∧ (xArgs as).length ≤ xMaxL N then match xRun n d' N 0 (xEntry N as) [] h with
            | some (v, h') => match xCaught v o h' with
              | some (c, h2) => xRun n (d' + 2) M (pc + 3) ls (.int c :: r) h2
              | none => none
            | none => none
            else none
          | _ => none
        | some (.inr (.inr (v, h'))) => some (v, h')
        | none => none
/-- from here the method comes to its end, with what Q says of the answer and the heap -/
def Wp (d M pc : Nat) (ls : xL) (st : List Value) (h : xH) (Q : Option Value → xH → Prop) : Prop := ∃ n v h', xRun n d M pc ls st h = some (v, h') ∧ Q v h'
