/-! ===== a small machine over numbered objects: what the classes' bytecode does, as a function ===== -/
abbrev zHp : Type := (Nat → Nat → Int32) × (Nat → Nat → Int64) × (Nat → Nat → Option Nat)
abbrev zSg : Type := Nat × List ((Nat × Nat) × Nat)
abbrev zSc : Type := Nat × (Nat → Int32)
abbrev zLv : Type := List (Option Value)
def zG (g : zSg) (a k : Nat) : Option Nat := g.2.lookup (a, k)
def zPI (h : zHp) (a k : Nat) (v : Int32) : zHp := (fun x y => if x = a ∧ y = k then v else h.1 x y, h.2.1, h.2.2)
def zPL (h : zHp) (a k : Nat) (v : Int64) : zHp := (h.1, fun x y => if x = a ∧ y = k then v else h.2.1 x y, h.2.2)
def zPR (h : zHp) (a k : Nat) (v : Nat) : zHp := (h.1, h.2.1, fun x y => if x = a ∧ y = k then some v else h.2.2 x y)
def zBk (h : zHp) (a : Nat) : zHp := (fun x y => if x = a then 0 else h.1 x y, fun x y => if x = a then 0 else h.2.1 x y, fun x y => if x = a then none else h.2.2 x y)
def zCI (h : zHp) (a b sp dp n : Nat) : zHp := (fun x y => if x = b then va_cpy (h.1 a) (h.1 b) sp dp n y else h.1 x y, h.2.1, h.2.2)
def zCL (h : zHp) (a b sp dp n : Nat) : zHp := (h.1, fun x y => if x = b then va_cpy (h.2.1 a) (h.2.1 b) sp dp n y else h.2.1 x y, h.2.2)
def zin (i : Int32) (n : Nat) : Bool := decide (¬ (i < 0 ∨ n ≤ i.toNatClampNeg))
def zWi (i : Nat) : Int64 := match i with
  | 0 => -6148914691236517206
  | 1 => -3689348814741910324
  | 2 => -1085102592571150096
  | 3 => -71777214294589696
  | 4 => -281470681808896
  | _ => -4294967296
def zBt : List (List Int32) := [[104, 97, 116, 115], [102, 97, 99, 116], [102, 111, 108, 108, 111, 119, 115], [112, 101, 114, 115, 111, 110], [107, 110, 111, 119, 115]]
def zLg (lv : zLv) (i : Nat) : Option Value := (lv[i]?).getD none
def z_i1 (f : Int32 → Option Value) : List Value → Option (List Value)
  | .int x :: r => (f x).map (fun v => v :: r)
  | _ => none
def z_i2 (f : Int32 → Int32 → Option Value) : List Value → Option (List Value)
  | .int y :: .int x :: r => (f x y).map (fun v => v :: r)
  | _ => none
def z_l1 (f : Int64 → Option Value) : List Value → Option (List Value)
  | .long x :: r => (f x).map (fun v => v :: r)
  | _ => none
def z_l2 (f : Int64 → Int64 → Option Value) : List Value → Option (List Value)
  | .long y :: .long x :: r => (f x y).map (fun v => v :: r)
  | _ => none
def z_li (f : Int64 → Int32 → Option Value) : List Value → Option (List Value)
  | .int y :: .long x :: r => (f x y).map (fun v => v :: r)
  | _ => none
def z_il (lv : zLv) (i : Nat) (st : List Value) : Option (List Value) := match zLg lv i with
  | some (.int x) => some (.int x :: st)
  | _ => none
def z_ll (lv : zLv) (i : Nat) (st : List Value) : Option (List Value) := match zLg lv i with
  | some (.long x) => some (.long x :: st)
  | _ => none
def z_al (lv : zLv) (i : Nat) (st : List Value) : Option (List Value) := match zLg lv i with
  | some (.ref x) => if x = 1400 then none else some (.ref x :: st)
  | _ => none
def z_dup : List Value → Option (List Value)
  | v :: r => if v.category = 1 then some (v :: v :: r) else none
  | _ => none
def z_dup2 : List Value → Option (List Value)
  | v :: w :: r => if v.category = 1 ∧ w.category = 1 then some (v :: w :: v :: w :: r) else if v.category = 2 then some (v :: v :: w :: r) else none
  | [v] => if v.category = 2 then some [v, v] else none
  | _ => none
def z_pop : List Value → Option (List Value)
  | v :: r => if v.category = 1 then some r else none
  | _ => none
def zKc (o i : Nat) : Option (Int32 ⊕ Int64) := (zKt.lookup (o, i)).map (·.1)
def zTc (o i : Nat) : Option Nat := (zTt.lookup (o, i)).map (·.2)
def zSc' (o i : Nat) : Option Nat := (zSt.lookup (o, i)).map (·.1)
def z_ci (o i : Nat) (st : List Value) : Option (List Value) := match zKc o i with
  | some (.inl v) => some (.int v :: st)
  | _ => none
def z_ct (o i : Nat) (st : List Value) : Option (List Value) := match zTc o i with
  | some j => some (.ref (1000 + j) :: st)
  | _ => none
def z_cl (o i : Nat) (st : List Value) : Option (List Value) := match zKc o i with
  | some (.inr v) => some (.long v :: st)
  | _ => none
def z_st (o i : Nat) (st : List Value) : Option (List Value) := match zSc' o i with
  | some 0 => some (.ref 1200 :: st)
  | some 1 => some (.int 1 :: st)
  | some 2 => some (.ref 1400 :: st)
  | _ => none
def zPure (o : Nat) (op : Instr) (lv : zLv) (st : List Value) : Option (List Value) :=
  match op with
  | .iconst n => some (.int (Int32.ofInt n) :: st)
  | .bipush n => some (.int (Int8.ofInt n).toInt32 :: st)
  | .sipush n => some (.int (Int16.ofInt n).toInt32 :: st)
  | .lconst n => some (.long (Int64.ofNat n.val) :: st)
  | .ldc i => (z_ci o i st).or (z_ct o i st)
  | .ldc_w i => z_ci o i st
  | .ldc2_w i => z_cl o i st
  | .getstatic i => z_st o i st
  | .iload i => z_il lv i st
  | .iload_n i => z_il lv i.val st
  | .lload i => z_ll lv i st
  | .lload_n i => z_ll lv i.val st
  | .aload i => z_al lv i st
  | .aload_n i => z_al lv i.val st
  | .dup => z_dup st
  | .dup2 => z_dup2 st
  | .pop => z_pop st
  | .iadd => z_i2 (fun x y => some (.int (x + y))) st
  | .isub => z_i2 (fun x y => some (.int (x - y))) st
  | .imul => z_i2 (fun x y => some (.int (x * y))) st
  | .idiv => z_i2 (fun x y => if y = 0 then none else some (.int (x / y))) st
  | .irem => z_i2 (fun x y => if y = 0 then none else some (.int (x - x / y * y))) st
  | .ishl => z_i2 (fun x y => some (.int (x <<< (y &&& 31)))) st
  | .ishr => z_i2 (fun x y => some (.int (x >>> (y &&& 31)))) st
  | .iushr => z_i2 (fun x y => some (.int (x.toUInt32 >>> (y.toUInt32 &&& Int32.toUInt32 31)).toInt32)) st
  | .iand => z_i2 (fun x y => some (.int (x &&& y))) st
  | .ior => z_i2 (fun x y => some (.int (x ||| y))) st
  | .ixor => z_i2 (fun x y => some (.int (x ^^^ y))) st
  | .ineg => z_i1 (fun x => some (.int (-x))) st
  | .i2l => z_i1 (fun x => some (.long x.toInt64)) st
  | .i2c => z_i1 (fun x => some (.int (x.toUInt32 % 65536).toInt32)) st
  | .l2i => z_l1 (fun x => some (.int x.toInt32)) st
  | .ladd => z_l2 (fun x y => some (.long (x + y))) st
  | .lsub => z_l2 (fun x y => some (.long (x - y))) st
  | .lmul => z_l2 (fun x y => some (.long (x * y))) st
  | .lrem => z_l2 (fun x y => if y = 0 then none else some (.long (x - x / y * y))) st
  | .land => z_l2 (fun x y => some (.long (x &&& y))) st
  | .lor => z_l2 (fun x y => some (.long (x ||| y))) st
  | .lxor => z_l2 (fun x y => some (.long (x ^^^ y))) st
  | .lshl => z_li (fun x y => some (.long (x <<< (y.toInt64 &&& 63)))) st
  | .lshr => z_li (fun x y => some (.long (x >>> (y.toInt64 &&& 63)))) st
  | .lushr => z_li (fun x y => some (.long (x.toUInt64 >>> (y.toInt64.toUInt64 &&& Int64.toUInt64 63)).toInt64)) st
  | .lcmp => z_l2 (fun x y => some (.int (lg_cmp x y))) st
  | _ => none
/-! locals -/
def zInv (lv : zLv) (i : Nat) : zLv := match i with
  | 0 => lv
  | j + 1 => match zLg lv j with
    | some (.long _) => lv.set j none
    | some (.double _) => lv.set j none
    | _ => lv
def zSto (lv : zLv) (i : Nat) (v : Value) : zLv := (zInv lv i).set i (some v)
def zStL (lv : zLv) (i : Nat) (v : Value) : zLv := ((zInv lv i).set (i + 1) none).set i (some v)
def z_is (lv : zLv) (i : Nat) : List Value → Option (zLv × List Value)
  | .int x :: r => if i < lv.length then some (zSto lv i (.int x), r) else none
  | _ => none
def z_ls (lv : zLv) (i : Nat) : List Value → Option (zLv × List Value)
  | .long x :: r => if i + 1 < lv.length then some (zStL lv i (.long x), r) else none
  | _ => none
def z_as (lv : zLv) (i : Nat) : List Value → Option (zLv × List Value)
  | .ref x :: r => if i < lv.length ∧ x ≠ 1400 then some (zSto lv i (.ref x), r) else none
  | _ => none
def z_ic (lv : zLv) (i : Nat) (n : Int) (st : List Value) : Option (zLv × List Value) := match zLg lv i with
  | some (.int x) => some (zSto lv i (.int (x + Int32.ofInt n)), st)
  | _ => none
def zLoc (op : Instr) (lv : zLv) (st : List Value) : Option (zLv × List Value) :=
  match op with
  | .istore i => z_is lv i st
  | .istore_n i => z_is lv i.val st
  | .lstore i => z_ls lv i st
  | .lstore_n i => z_ls lv i.val st
  | .astore i => z_as lv i st
  | .astore_n i => z_as lv i.val st
  | .iinc i n => z_ic lv i n st
  | _ => none
/-! branches -/
def zTg (pc : Nat) (off : Int) : Option Nat := if 0 ≤ (pc : Int) + off then some ((pc : Int) + off).toNat else none
def zC1 (c : ClassFile.Cond) (x : Int32) : Bool := match c with
  | .eq => if x = 0 then true else false
  | .ne => if x = 0 then false else true
  | .lt => if x < 0 then true else false
  | .ge => if x < 0 then false else true
  | .gt => if 0 < x then true else false
  | .le => if 0 < x then false else true
def zC2 (c : ClassFile.Cond) (x y : Int32) : Bool := match c with
  | .eq => if x = y then true else false
  | .ne => if x = y then false else true
  | .lt => if x < y then true else false
  | .ge => if x < y then false else true
  | .gt => if y < x then true else false
  | .le => if y < x then false else true
def z_b1 (pc : Nat) (c : ClassFile.Cond) (off : Int) : List Value → Option (Nat × List Value)
  | .int x :: r => (zTg pc off).map (fun t => (if zC1 c x then t else pc + 3, r))
  | _ => none
def z_b2 (pc : Nat) (c : ClassFile.Cond) (off : Int) : List Value → Option (Nat × List Value)
  | .int y :: .int x :: r => (zTg pc off).map (fun t => (if zC2 c x y then t else pc + 3, r))
  | _ => none
def z_ts (pc : Nat) (d lo hi : Int) (offs : Array Int) : List Value → Option (Nat × List Value)
  | .int x :: r => if x.toInt < lo ∨ hi < x.toInt then (zTg pc d).map (fun t => (t, r)) else match offs[(x.toInt - lo).toNat]? with
    | some o => (zTg pc o).map (fun t => (t, r))
    | none => none
  | _ => none
def z_lk' (pc : Nat) (d : Int) (ps : Array (Int × Int)) : List Value → Option (Nat × List Value)
  | .int x :: r => if (ps.toList.zip (ps.toList.drop 1)).all (fun (a, next) => a.1 < next.1) = true then (zTg pc (Op.lookupswitch.offset ps.toList d x.toInt)).map (fun t => (t, r)) else none
  | _ => none
def zBr (op : Instr) (pc : Nat) (st : List Value) : Option (Nat × List Value) :=
  match op with
  | .goto off => (zTg pc off).map (fun t => (t, st))
  | .ifCond c off => z_b1 pc c off st
  | .if_icmp c off => z_b2 pc c off st
  | .tableswitch d lo hi offs => z_ts pc d lo hi offs st
  | .lookupswitch d ps => z_lk' pc d ps st
  | _ => none
/-! returns -/
def zRk (t : Option FieldType) (r : Option Value) : Bool := match t, r with
  | none, none => true
  | some .int, some (.int _) => true
  | some .long, some (.long _) => true
  | some .boolean, some (.int x) => x == 0 || x == 1
  | some .byte, some (.int x) => x == 0
  | some .char, some (.int x) => (x.toUInt32 % 65536).toInt32 == x
  | _, _ => false
def zRet (t : Option FieldType) (op : Instr) (st : List Value) : Option (Option Value) := match op, st with
  | .ireturn, [.int x] => if zRk t (some (.int x)) then some (some (.int x)) else none
  | .lreturn, [.long x] => if zRk t (some (.long x)) then some (some (.long x)) else none
  | .return_, [] => if zRk t none then some none else none
  | _, _ => none
