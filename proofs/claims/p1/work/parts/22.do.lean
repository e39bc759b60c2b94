def am_tyl : List (Nat → FieldType) := [tyX0, tyX1, tyX2, tyX3, tyX4, tyX5, tyX6, tyX7, tyX8, tyX9, tyX10, tyX11, tyX12]
def am_fty (ci k : Nat) : FieldType := match am_tyl[ci]? with
  | some f => f k
  | none => .int
def am_fetch (i pc : Nat) : Option am_I := match am_code[i]?, am_size[i]? with
  | some f, some n => if pc < n then f pc else none
  | _, _ => none
def am_kind : Instr → Nat
  | .iconst _ | .bipush _ | .sipush _ | .lconst _ | .ldc _ | .ldc_w _ | .ldc2_w _ | .iload _ | .iload_n _ | .lload _ | .lload_n _ | .aload _ | .aload_n _ => 0
  | .istore _ | .istore_n _ | .lstore _ | .lstore_n _ | .astore _ | .astore_n _ => 1
  | .iadd | .isub | .imul | .iand | .ior | .ixor | .ishl | .ishr | .iushr | .idiv | .irem => 2
  | .ladd | .lsub | .lmul | .land | .lor | .lxor | .ldiv | .lrem | .lcmp => 3
  | .lshl | .lshr | .lushr => 4
  | .ineg | .i2l | .i2b | .i2s | .i2c => 5
  | .lneg | .l2i => 6
  | .ifCond _ _ => 7
  | .if_icmp _ _ => 8
  | .goto _ => 9
  | .tableswitch _ _ _ _ => 10
  | .iinc _ _ => 11
  | .dup | .dup2 | .pop | .pop2 => 12
  | .iaload | .baload | .laload | .aaload => 13
  | .iastore | .bastore | .lastore => 14
  | .arraylength => 15
  | .getfield _ => 16
  | .putfield _ => 17
  | .new _ => 18
  | .newarray _ => 19
  | .multianewarray _ _ => 20
  | .invokevirtual _ | .invokestatic _ | .invokespecial _ => 21
  | .ireturn | .lreturn | .areturn | .return_ => 22
  | _ => 23
def am_d0 (pc : Nat) (e : am_I) (lv : am_L) (st : List Value) (h : am_H) : Option am_N := (am_push e.1 e.2.2 lv).map (fun v => .inl (pc + e.2.1, lv, v :: st, h))
def am_d1 (pc : Nat) (e : am_I) (lv : am_L) (st : List Value) (h : am_H) : Option am_N := match am_isStore e.1, st with
  | some (0, k), .int x :: r => some (.inl (pc + e.2.1, am_st1 lv k (.int x), r, h))
  | some (1, k), .long x :: r => some (.inl (pc + e.2.1, am_st2 lv k (.long x), r, h))
  | some (2, k), .ref x :: r => some (.inl (pc + e.2.1, am_st1 lv k (.ref x), r, h))
  | _, _ => none
def am_d2 (pc : Nat) (e : am_I) (lv : am_L) (st : List Value) (h : am_H) : Option am_N := match st with
  | .int y :: .int x :: r => (am_ii e.1 x y).map (fun z => .inl (pc + e.2.1, lv, .int z :: r, h))
  | _ => none
def am_d3 (pc : Nat) (e : am_I) (lv : am_L) (st : List Value) (h : am_H) : Option am_N := match st with
  | .long y :: .long x :: r => (am_jj e.1 x y).map (fun z => .inl (pc + e.2.1, lv, z :: r, h))
  | _ => none
def am_d4 (pc : Nat) (e : am_I) (lv : am_L) (st : List Value) (h : am_H) : Option am_N := match st with
  | .int y :: .long x :: r => (am_ji e.1 x y).map (fun z => .inl (pc + e.2.1, lv, .long z :: r, h))
  | _ => none
def am_d5 (pc : Nat) (e : am_I) (lv : am_L) (st : List Value) (h : am_H) : Option am_N := match st with
  | .int x :: r => (am_i1 e.1 x).map (fun z => .inl (pc + e.2.1, lv, z :: r, h))
  | _ => none
def am_d6 (pc : Nat) (e : am_I) (lv : am_L) (st : List Value) (h : am_H) : Option am_N := match st with
  | .long x :: r => (am_j1 e.1 x).map (fun z => .inl (pc + e.2.1, lv, z :: r, h))
  | _ => none
def am_d7 (pc : Nat) (e : am_I) (lv : am_L) (st : List Value) (h : am_H) : Option am_N := match e.1, st with
  | .ifCond c off, .int x :: r => some (.inl (if am_c1 c x then am_go pc off else pc + 3, lv, r, h))
  | _, _ => none
def am_d8 (pc : Nat) (e : am_I) (lv : am_L) (st : List Value) (h : am_H) : Option am_N := match e.1, st with
  | .if_icmp c off, .int y :: .int x :: r => some (.inl (if am_c2 c x y then am_go pc off else pc + 3, lv, r, h))
  | _, _ => none
def am_d9 (pc : Nat) (e : am_I) (lv : am_L) (st : List Value) (h : am_H) : Option am_N := match e.1 with
  | .goto off => some (.inl (am_go pc off, lv, st, h))
  | _ => none
def am_d10 (pc : Nat) (e : am_I) (lv : am_L) (st : List Value) (h : am_H) : Option am_N := match e.1, st with
  | .tableswitch d lo hi offs, .int x :: r => if x.toInt < lo ∨ hi < x.toInt then some (.inl (am_go pc d, lv, r, h)) else match offs.toList[(x.toInt - lo).toNat]? with
    | some o => some (.inl (am_go pc o, lv, r, h))
    | none => none
  | _, _ => none
def am_d11 (pc : Nat) (e : am_I) (lv : am_L) (st : List Value) (h : am_H) : Option am_N := match e.1 with
  | .iinc k n => match am_ld lv k with
    | some (.int x) => some (.inl (pc + 3, am_st1 lv k (.int (x + Int32.ofInt n)), st, h))
    | _ => none
  | _ => none
def am_d12 (pc : Nat) (e : am_I) (lv : am_L) (st : List Value) (h : am_H) : Option am_N := match e.1, st with
  | .dup, v :: r => if v.category = 1 then some (.inl (pc + 1, lv, v :: v :: r, h)) else none
  | .pop, v :: r => if v.category = 1 then some (.inl (pc + 1, lv, r, h)) else none
  | .pop2, v :: r => if v.category = 2 then some (.inl (pc + 1, lv, r, h)) else none
  | .dup2, v :: w :: r => if v.category = 1 ∧ w.category = 1 then some (.inl (pc + 1, lv, v :: w :: v :: w :: r, h)) else none
  | _, _ => none
def am_d13 (pc : Nat) (e : am_I) (lv : am_L) (st : List Value) (h : am_H) : Option am_N := match st with
  | .int i :: .ref a :: r => if a ≤ h.1 then (am_ald e.1 (h.2.2 a) i).map (fun v => .inl (pc + 1, lv, v :: r, h)) else none
  | _ => none
def am_d14 (pc : Nat) (e : am_I) (lv : am_L) (st : List Value) (h : am_H) : Option am_N := match st with
  | v :: .int i :: .ref a :: r => if 1 ≤ a ∧ a ≤ h.1 then (am_ast e.1 (h.2.2 a) i v).map (fun c => .inl (pc + 1, lv, r, (h.1, h.2.1, am_up h.2.2 a c))) else none
  | _ => none
def am_d15 (pc : Nat) (e : am_I) (lv : am_L) (st : List Value) (h : am_H) : Option am_N := match st with
  | .ref a :: r => if a ≤ h.1 then (am_len (h.2.2 a)).map (fun n => .inl (pc + 1, lv, .int (Int32.ofNat n) :: r, h)) else none
  | _ => none
def am_d16 (pc : Nat) (e : am_I) (lv : am_L) (st : List Value) (h : am_H) : Option am_N := match e.2.2, st with
  | [ci, k, _, _], .ref a :: r => if 1 ≤ a ∧ a ≤ h.1 then match h.2.2 a with
    | .inr (c, fs) => if c = ci then (fs[k]?).map (fun v => .inl (pc + 3, lv, v :: r, h)) else none
    | _ => none
    else none
  | _, _ => none
def am_d17 (pc : Nat) (e : am_I) (lv : am_L) (st : List Value) (h : am_H) : Option am_N := match e.2.2, st with
  | [ci, k, _, _], v :: .ref a :: r => if 1 ≤ a ∧ a ≤ h.1 then match h.2.2 a with
    | .inr (c, fs) => if c = ci ∧ k < fs.length ∧ am_fit (am_fty ci k) v = true then some (.inl (pc + 3, lv, r, (h.1, h.2.1, am_up h.2.2 a (.inr (c, fs.set k v))))) else none
    | _ => none
    else none
  | _, _ => none
def am_d18 (pc : Nat) (e : am_I) (lv : am_L) (st : List Value) (h : am_H) : Option am_N := match e.2.2 with
  | ci :: _ => match vwCl[ci]? with
    | some q => some (.inl (pc + 3, lv, .ref (h.1 + 1) :: st, (h.1 + 1, h.2.1 + q.2.2, am_up h.2.2 (h.1 + 1) (.inr (ci, (List.range q.2.2).map (fun j => defaultValue (am_fty ci j)))))))
    | none => none
  | _ => none
def am_d19 (pc : Nat) (e : am_I) (lv : am_L) (st : List Value) (h : am_H) : Option am_N := match e.1, st with
  | .newarray at_, .int n :: r => match am_tag at_ with
    | some (t, ma) => if ¬ n < 0 ∧ n.toNatClampNeg * componentBytes (am_ty t) ≤ 536870912 then some (.inl (pc + 2, lv, .ref (h.1 + 1) :: r, (h.1 + 1, h.2.1 + n.toNatClampNeg, am_up h.2.2 (h.1 + 1) (.inl (t, ma n.toNatClampNeg))))) else none
    | none => none
  | _, _ => none
def am_rows (h : Nat → am_E) (a n : Nat) (t : Nat) (row : vp_A) (tr : Nat) : Nat → am_E := fun j =>
  if j = a then .inl (t, n, .inr (.inr (.inr (.inr (fun i => if i < n then some (a + 1 + i) else none))))) else if a < j ∧ j ≤ a + n then .inl (tr, row) else h j
def am_d20 (pc : Nat) (e : am_I) (lv : am_L) (st : List Value) (h : am_H) : Option am_N := match e.2.2, st with
  | 4 :: _, .int k :: .int n :: r => if ¬ n < 0 ∧ ¬ k < 0 ∧ n.toNatClampNeg ≤ 1000 ∧ k.toNatClampNeg ≤ 1000 then some (.inl (pc + 4, lv, .ref (h.1 + 1) :: r, (h.1 + 1 + n.toNatClampNeg, h.2.1 + n.toNatClampNeg + n.toNatClampNeg * k.toNatClampNeg, am_rows h.2.2 (h.1 + 1) n.toNatClampNeg 4 (k.toNatClampNeg, .inl (fun _ => 0)) 1))) else none
  | 5 :: _, .int k :: .int n :: r => if ¬ n < 0 ∧ ¬ k < 0 ∧ n.toNatClampNeg ≤ 1000 ∧ k.toNatClampNeg ≤ 1000 then some (.inl (pc + 4, lv, .ref (h.1 + 1) :: r, (h.1 + 1 + n.toNatClampNeg, h.2.1 + n.toNatClampNeg + n.toNatClampNeg * k.toNatClampNeg, am_rows h.2.2 (h.1 + 1) n.toNatClampNeg 5 (k.toNatClampNeg, .inr (.inl (fun _ => 0))) 2))) else none
  | _, _ => none
/-- int and byte arrays: a stretch of one into the other -/
def am_cp (c0 c1 : am_E) (sp dp n : Int32) : Option am_E := match c0, c1 with
  | .inl (t0, n0, .inl f), .inl (t1, n1, .inl g) => if t0 = t1 ∧ t0 ≤ 1 ∧ ¬ sp < 0 ∧ ¬ dp < 0 ∧ ¬ n < 0 ∧ sp.toNatClampNeg + n.toNatClampNeg ≤ n0 ∧ dp.toNatClampNeg + n.toNatClampNeg ≤ n1 ∧ (List.range n.toNatClampNeg).all (fun i => fits (am_ty t0) (.int (f (sp.toNatClampNeg + i)))) = true
      then some (.inl (t1, n1, .inl (va_cpy f g sp.toNatClampNeg dp.toNatClampNeg n.toNatClampNeg))) else none
  | _, _ => none
def am_recv (h : am_H) (ci : Nat) (as : List Value) : Bool := match as with
  | .ref a :: _ => decide (1 ≤ a ∧ a ≤ h.1) && (match h.2.2 a with
    | .inr (c, _) => decide (c = ci)
    | _ => false)
  | _ => false
def am_fitsL (j : Nat) (as : List Value) : Bool := match am_meth[j]? with
  | some q => decide (am_cat as ≤ q.2.2.1)
  | none => false
def am_call (j n : Nat) (ok : List Value → Bool) (st : List Value) : Option am_N :=
  if n ≤ st.length ∧ am_cat (st.drop n) ≤ 8 ∧ am_fitsL j (st.take n).reverse = true ∧ ok (st.take n).reverse = true then some (.inr (.inl (j, (st.take n).reverse, st.drop n))) else none
def am_d21 (pc : Nat) (e : am_I) (lv : am_L) (st : List Value) (h : am_H) : Option am_N := match e.2.2 with
  | [0, _, _, _] => match st with
    | .ref a :: r => if am_cat r ≤ 8 then some (.inl (pc + 3, lv, r, h)) else none
    | _ => none
  | [7, _, _, _, _] => match st with
    | .int n :: .int dp :: .ref a :: .int sp :: .ref a0 :: r => if 1 ≤ a0 ∧ a0 ≤ h.1 ∧ 1 ≤ a ∧ a ≤ h.1 ∧ am_cat r ≤ 8 then (am_cp (h.2.2 a0) (h.2.2 a) sp dp n).map (fun c => .inl (pc + 3, lv, r, (h.1, h.2.1, am_up h.2.2 a c))) else none
    | _ => none
  | [_, j, n, _, _, _, _, _, ci] => am_call j (n + 1) (am_recv h ci) st
  | [3, j, n, _, _, _, _] => am_call j n (fun _ => true) st
  | [4, j, n, _, _, _, _] => am_call j n (fun _ => true) st
  | [_, j, n, _, _, _, _] => am_call j (n + 1) (fun as => match as with
    | .ref _ :: _ => true
    | _ => false) st
  | _ => none
def am_rt (i : Nat) : Option FieldType := match am_meth[i]? with
  | some q => q.2.2.2
  | none => none
def am_d22 (i : Nat) (e : am_I) (st : List Value) : Option am_N := match e.1, st with
  | .ireturn, [.int v] => match am_rt i with
    | some ty => if am_fit ty (.int v) = true then some (.inr (.inr (some (.int v)))) else none
    | none => none
  | .lreturn, [.long v] => if am_rt i = some .long then some (.inr (.inr (some (.long v)))) else none
  | .areturn, [.ref a] => if am_rt i = some (.array .byte) then some (.inr (.inr (some (.ref a)))) else none
  | .return_, [] => if am_rt i = none then some (.inr (.inr none)) else none
  | _, _ => none
def am_do (i pc : Nat) (e : am_I) (lv : am_L) (st : List Value) (h : am_H) : Option am_N := match am_kind e.1 with
  | 0 => am_d0 pc e lv st h
  | 1 => am_d1 pc e lv st h
  | 2 => am_d2 pc e lv st h
  | 3 => am_d3 pc e lv st h
  | 4 => am_d4 pc e lv st h
  | 5 => am_d5 pc e lv st h
  | 6 => am_d6 pc e lv st h
  | 7 => am_d7 pc e lv st h
  | 8 => am_d8 pc e lv st h
  | 9 => am_d9 pc e lv st h
  | 10 => am_d10 pc e lv st h
  | 11 => am_d11 pc e lv st h
  | 12 => am_d12 pc e lv st h
  | 13 => am_d13 pc e lv st h
  | 14 => am_d14 pc e lv st h
  | 15 => am_d15 pc e lv st h
  | 16 => am_d16 pc e lv st h
  | 17 => am_d17 pc e lv st h
  | 18 => am_d18 pc e lv st h
  | 19 => am_d19 pc e lv st h
  | 20 => am_d20 pc e lv st h
  | 21 => am_d21 pc e lv st h
  | 22 => am_d22 i e st
  | _ => none
/-- the run of method i from pc on: fuel, how deep calls may go, the answer and the cells behind it -/
def am_exec : Nat → Nat → Nat → Nat → am_L → List Value → am_H → Option (Option Value × am_H)
  | 0, _, _, _, _, _, _ => none
  | f + 1, d, i, pc, lv, st, h => match am_fetch i pc with
    | none => none
    | some e => match am_do i pc e lv st h with
      | none => none
      | some (.inl (pc', lv', st', h')) => am_exec f d i pc' lv' st' h'
      | some (.inr (.inr rv)) => some (rv, h)
      | some (.inr (.inl (j, as, rest))) => match d with
        | 0 => none
        | d' + 1 => match am_exec f d' j 0 (lv_args 0 as) [] h with
          | none => none
          | some (rv, h') => am_exec f (d' + 1) i (pc + 3) lv (rv.toList ++ rest) h'
