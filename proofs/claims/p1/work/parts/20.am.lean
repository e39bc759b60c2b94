/-! THE SMALL MACHINE: the bytecode over cells that are counted from 1 on (0 is the script), as a function with fuel -/
abbrev am_E : Type := (Nat × vp_A) ⊕ (Nat × List Value)
abbrev am_H : Type := Nat × Nat × (Nat → am_E)
abbrev am_L : Type := List (Nat × Value)
abbrev am_N : Type := (Nat × am_L × List Value × am_H) ⊕ ((Nat × List Value × List Value) ⊕ Option Value)
abbrev am_I : Type := Instr × Nat × List Nat
def am_ty : Nat → FieldType
  | 0 => .byte
  | 1 => .int
  | 2 => .long
  | 3 => .boolean
  | 4 => .array .int
  | _ => .array .long
def am_up (h : Nat → am_E) (k : Nat) (c : am_E) : Nat → am_E := fun j => if j = k then c else h j
def am_ld (lv : am_L) (i : Nat) : Option Value := (lv.find? (fun q => q.1 == i)).map (fun q => q.2)
def am_st1 (lv : am_L) (i : Nat) (v : Value) : am_L := (i, v) :: lv.filter (fun q => !(q.1 == i) && !(q.1 + 1 == i && q.2.category == 2))
def am_st2 (lv : am_L) (i : Nat) (v : Value) : am_L := (i, v) :: lv.filter (fun q => !(q.1 == i) && (!(q.1 == i + 1) && !(q.1 + 1 == i && q.2.category == 2)))
def am_isI : Option Value → Option Value
  | some (.int x) => some (.int x)
  | _ => none
def am_isJ : Option Value → Option Value
  | some (.long x) => some (.long x)
  | _ => none
def am_isA : Option Value → Option Value
  | some (.ref x) => some (.ref x)
  | _ => none
/-- what an instruction pushes that takes nothing -/
def am_push (ins : Instr) (aux : List Nat) (lv : am_L) : Option Value := match ins with
  | .iconst k => some (.int (Int32.ofInt k))
  | .bipush k => some (.int (Int8.ofInt k).toInt32)
  | .sipush k => some (.int (Int16.ofInt k).toInt32)
  | .lconst k => some (.long (Int64.ofNat k))
  | .ldc _ => match aux with
    | [_, v] => some (.int (Int32.ofNat v))
    | _ => none
  | .ldc_w _ => match aux with
    | [_, v] => some (.int (Int32.ofNat v))
    | _ => none
  | .ldc2_w _ => match aux with
    | [_, v] => some (.long (Int64.ofNat v))
    | _ => none
  | .iload k => am_isI (am_ld lv k)
  | .iload_n k => am_isI (am_ld lv k)
  | .lload k => am_isJ (am_ld lv k)
  | .lload_n k => am_isJ (am_ld lv k)
  | .aload k => am_isA (am_ld lv k)
  | .aload_n k => am_isA (am_ld lv k)
  | _ => none
def am_ii (ins : Instr) (x y : Int32) : Option Int32 := match ins with
  | .iadd => some (x + y)
  | .isub => some (x - y)
  | .imul => some (x * y)
  | .iand => some (x &&& y)
  | .ior => some (x ||| y)
  | .ixor => some (x ^^^ y)
  | .ishl => some (x <<< (y &&& 31))
  | .ishr => some (x >>> (y &&& 31))
  | .iushr => some (x.toUInt32 >>> (y.toUInt32 &&& Int32.toUInt32 31)).toInt32
  | .idiv => if y = 0 then none else some (x / y)
  | .irem => if y = 0 then none else some (x - x / y * y)
  | _ => none
def am_jj (ins : Instr) (x y : Int64) : Option Value := match ins with
  | .ladd => some (.long (x + y))
  | .lsub => some (.long (x - y))
  | .lmul => some (.long (x * y))
  | .land => some (.long (x &&& y))
  | .lor => some (.long (x ||| y))
  | .lxor => some (.long (x ^^^ y))
  | .ldiv => if y = 0 then none else some (.long (x / y))
  | .lrem => if y = 0 then none else some (.long (x - x / y * y))
  | .lcmp => some (.int (lg_cmp x y))
  | _ => none
def am_ji (ins : Instr) (x : Int64) (y : Int32) : Option Int64 := match ins with
  | .lshl => some (x <<< (y.toInt64 &&& 63))
  | .lshr => some (x >>> (y.toInt64 &&& 63))
  | .lushr => some (x.toUInt64 >>> (y.toInt64.toUInt64 &&& Int64.toUInt64 63)).toInt64
  | _ => none
def am_i1 (ins : Instr) (x : Int32) : Option Value := match ins with
  | .ineg => some (.int (-x))
  | .i2l => some (.long x.toInt64)
  | .i2b => some (.int x.toInt8.toInt32)
  | .i2s => some (.int x.toInt16.toInt32)
  | .i2c => some (.int (x.toUInt32 % 65536).toInt32)
  | _ => none
def am_j1 (ins : Instr) (x : Int64) : Option Value := match ins with
  | .lneg => some (.long (-x))
  | .l2i => some (.int x.toInt32)
  | _ => none
def am_c1 (c : Jvm.ClassFile.Cond) (x : Int32) : Bool := match c with
  | .eq => decide (x = 0)
  | .ne => decide (¬ x = 0)
  | .lt => decide (x < 0)
  | .ge => decide (0 ≤ x)
  | .gt => decide (0 < x)
  | .le => decide (x ≤ 0)
def am_c2 (c : Jvm.ClassFile.Cond) (x y : Int32) : Bool := match c with
  | .eq => decide (x = y)
  | .ne => decide (¬ x = y)
  | .lt => decide (x < y)
  | .ge => decide (y ≤ x)
  | .gt => decide (y < x)
  | .le => decide (x ≤ y)
def am_go (pc : Nat) (off : Int) : Nat := ((pc : Int) + off).toNat
def am_idx (i : Int32) (n : Nat) : Bool := !(decide (i < 0) || decide (n ≤ i.toNatClampNeg))
/-- an array's place -/
def am_ald (ins : Instr) (c : am_E) (i : Int32) : Option Value := match ins, c with
  | .iaload, .inl (1, n, .inl f) => if am_idx i n then some (.int (f i.toNatClampNeg)) else none
  | .baload, .inl (0, n, .inl f) => if am_idx i n then some (.int (f i.toNatClampNeg)) else none
  | .baload, .inl (3, n, .inl f) => if am_idx i n then some (.int (f i.toNatClampNeg)) else none
  | .laload, .inl (2, n, .inr (.inl f)) => if am_idx i n then some (.long (f i.toNatClampNeg)) else none
  | .aaload, .inl (4, n, .inr (.inr (.inr (.inr f)))) => if am_idx i n then (f i.toNatClampNeg).map (fun a => Value.ref a) else none
  | .aaload, .inl (5, n, .inr (.inr (.inr (.inr f)))) => if am_idx i n then (f i.toNatClampNeg).map (fun a => Value.ref a) else none
  | _, _ => none
def am_ast (ins : Instr) (c : am_E) (i : Int32) (v : Value) : Option am_E := match ins, c, v with
  | .iastore, .inl (1, n, .inl f), .int x => if am_idx i n then some (.inl (1, n, .inl (upd f i.toNatClampNeg x))) else none
  | .bastore, .inl (0, n, .inl f), .int x => if am_idx i n then some (.inl (0, n, .inl (upd f i.toNatClampNeg (vp_nar .byte x)))) else none
  | .bastore, .inl (3, n, .inl f), .int x => if am_idx i n then some (.inl (3, n, .inl (upd f i.toNatClampNeg (vp_nar .boolean x)))) else none
  | .lastore, .inl (2, n, .inr (.inl f)), .long x => if am_idx i n then some (.inl (2, n, .inr (.inl (vp_updL f i.toNatClampNeg x)))) else none
  | _, _, _ => none
def am_len (c : am_E) : Option Nat := match c with
  | .inl (t, n, _) => if t < 6 then some n else none
  | _ => none
def am_fit (ty : FieldType) (v : Value) : Bool := match ty, v with
  | .int, .int _ => true
  | .long, .long _ => true
  | .boolean, .int x => x == 0 || x == 1
  | .array _, .ref _ => true
  | .object _, .ref _ => true
  | _, _ => false
def am_tag : ArrayType → Option (Nat × (Nat → vp_A))
  | .int => some (1, fun n => (n, .inl (fun _ => 0)))
  | .long => some (2, fun n => (n, .inr (.inl (fun _ => 0))))
  | .byte => some (0, fun n => (n, .inl (fun _ => 0)))
  | .boolean => some (3, fun n => (n, .inl (fun _ => 0)))
  | _ => none
def am_cat (st : List Value) : Nat := (st.map fun v => v.category).sum
def am_isStore : Instr → Option (Nat × Nat)
  | .istore k => some (0, k)
  | .istore_n k => some (0, k)
  | .lstore k => some (1, k)
  | .lstore_n k => some (1, k)
  | .astore k => some (2, k)
  | .astore_n k => some (2, k)
  | _ => none
