def am_ln : Instr → Nat
  | .bipush _ | .ldc _ | .iload _ | .lload _ | .aload _ | .istore _ | .lstore _ | .astore _ | .newarray _ => 2
  | .sipush _ | .ldc_w _ | .ldc2_w _ | .ifCond _ _ | .if_icmp _ _ | .goto _ | .iinc _ _ | .getfield _ | .putfield _ | .new _ | .invokevirtual _ | .invokestatic _ | .invokespecial _ | .checkcast _ => 3
  | .multianewarray _ _ => 4
  | .tableswitch _ _ _ _ => 0
  | _ => 1
def am_wd (pos : Nat) (w : Jvm.Cond) : Bool := decide (lw_tbl[pos]? = some w) && goodWord w
def am_fl (own : String) (idx : Nat) (aux : List Nat) : Bool := match aux with
  | [ci, k, pos, nest] => match vwCl[ci]? with
    | some r => decide (k < r.2.2) && (if nest = 0 then am_wd pos (.fieldLink own idx (r.2.1 k).1 (r.2.1 k).2.1 (r.2.1 k).2.2.1) else decide (lw_tbl[pos]? = some (.fieldLinkNest own idx (r.2.1 k).1 (r.2.1 k).2.1 (r.2.1 k).2.2.1 "RoundTours")))
    | none => false
  | _ => false
def am_ff (own nm : String) (aux : List Nat) : Bool := match aux with
  | [ci, k, _, nest] => match vwCl[ci]? with
    | some r => !(r.2.1 k).2.2.2 || (decide (nm = "<init>") && decide ((r.2.1 k).1 = own) && decide (nest = 0))
    | none => false
  | _ => false
def am_plain (y : MethodName) (n : Nat) : Bool := decide (y.cls ≠ "java/lang/invoke/MethodHandle") && decide (y.cls ≠ "java/lang/invoke/VarHandle") && decide ((parseMethodDescriptor y.desc).map (fun d => d.parameters.length) = some n)
def am_lk (own : String) (idx pos : Nat) (nest : Bool) (y : MethodName) : Bool := if nest then decide (lw_tbl[pos]? = some (.methodLinkNest own idx y "RoundTours")) else am_wd pos (.methodLink own idx y)
def am_iv (own : String) (idx : Nat) (aux : List Nat) : Bool := match aux with
  | [k, j, n, p1, p2, p3, p4, p5, ci] => match am_meth[j]?, vwCl[ci]? with
    | some q, some r => (k == 1 || k == 2) && am_lk own idx p1 (k == 2) q.1 && am_wd p2 (.instanceMethod q.1) && am_wd p3 (.selects q.1.cls q.1 q.1) && am_wd p4 (.initialized q.1.cls) && decide (j < am_nM) && decide (r.1 = q.1.cls) && am_plain q.1 n && decide (q.2.2.1 ≤ 40)
    | _, _ => false
  | _ => false
def am_is (own : String) (idx : Nat) (aux : List Nat) : Bool := match aux with
  | [7, p1, p2, p3, p4] => am_wd p1 (.methodLink own idx arraycopyName) && am_wd p2 (.native arraycopyName) && am_wd p3 (.static arraycopyName) && am_wd p4 (.initialized "java/lang/System")
  | [k, j, n, p1, p2, p3, p4] => match am_meth[j]? with
    | some q => (k == 3 || k == 4) && am_lk own idx p1 (k == 4) q.1 && am_wd p2 (.static q.1) && am_wd p3 (.initialized q.1.cls) && decide (j < am_nM) && am_plain q.1 n && decide (q.2.2.1 ≤ 40)
    | none => false
  | _ => false
def am_ix (own : String) (idx : Nat) (aux : List Nat) : Bool := match aux with
  | [0, p1, p2, p3] => am_wd p1 (.methodLink own idx objectInit) && am_wd p2 (.instanceMethod objectInit) && am_wd p3 (.code objectInit ⟨#[0xb1]⟩ 1 none)
  | [k, j, n, p1, p2, p3, p4] => match am_meth[j]? with
    | some q => (k == 5 || k == 6) && am_lk own idx p1 (k == 6) q.1 && am_wd p2 (.instanceMethod q.1) && am_wd p3 (.initialized q.1.cls) && decide (j < am_nM) && decide (q.2.2.2 = none) && decide (q.1.name = "<init>") && am_plain q.1 n && decide (q.2.2.1 ≤ 40)
    | none => false
  | _ => false
def am_okA (q : MethodName × ByteArray × Nat × Option FieldType) (pc : Nat) (e : am_I) : Bool := match e.1 with
  | .ldc idx => match e.2.2 with
    | [pos, v] => am_wd pos (.constant q.1.cls idx (Int32.ofNat v))
    | _ => false
  | .ldc_w idx => match e.2.2 with
    | [pos, v] => am_wd pos (.constant q.1.cls idx (Int32.ofNat v))
    | _ => false
  | .ldc2_w idx => match e.2.2 with
    | [pos, v] => am_wd pos (.constantLong q.1.cls idx (Int64.ofNat v))
    | _ => false
  | .istore k => decide (k < q.2.2.1)
  | .istore_n k => decide ((k : Nat) < q.2.2.1)
  | .astore k => decide (k < q.2.2.1)
  | .astore_n k => decide ((k : Nat) < q.2.2.1)
  | .lstore k => decide (k + 1 < q.2.2.1)
  | .lstore_n k => decide ((k : Nat) + 1 < q.2.2.1)
  | .iinc k _ => decide (k < q.2.2.1)
  | .ifCond _ off => decide (0 ≤ (pc : Int) + off)
  | .if_icmp _ off => decide (0 ≤ (pc : Int) + off)
  | .goto off => decide (0 ≤ (pc : Int) + off)
  | .tableswitch d _ _ offs => decide (0 ≤ (pc : Int) + d) && offs.toList.all (fun o => decide (0 ≤ (pc : Int) + o))
  | .getfield idx => am_fl q.1.cls idx e.2.2
  | .putfield idx => am_fl q.1.cls idx e.2.2 && am_ff q.1.cls q.1.name e.2.2
  | .new idx => match e.2.2 with
    | [ci, p1, p2, p3] => match vwCl[ci]? with
      | some r => am_wd p1 (.classLink q.1.cls idx r.1) && am_wd p2 (.instantiable r.1 r.2.2) && am_wd p3 (.initialized r.1)
      | none => false
    | _ => false
  | .newarray at_ => match e.2.2 with
    | [p1] => am_wd p1 (.arrayClass (newarray.typeOf at_))
    | _ => false
  | .multianewarray idx dm => match e.2.2 with
    | [t, p1, p2, p3] => decide (dm = 2) && (if t = 4 then am_wd p1 (.classLink q.1.cls idx "[[I") && am_wd p3 (.arrayClass .int) && decide (lw_tbl[p2]? = some (.arrayOver (.array .int))) else decide (t = 5) && am_wd p1 (.classLink q.1.cls idx "[[J") && am_wd p3 (.arrayClass .long) && decide (lw_tbl[p2]? = some (.arrayOver (.array .long))))
    | _ => false
  | .invokevirtual idx => e.2.2 == [9] || am_iv q.1.cls idx e.2.2
  | .invokestatic idx => am_is q.1.cls idx e.2.2
  | .invokespecial idx => am_ix q.1.cls idx e.2.2
  | _ => true
def am_okB (q : MethodName × ByteArray × Nat × Option FieldType) (pc : Nat) (e : am_I) : Bool := decide (decode q.2.1 pc = .ok (e.1, e.2.1)) && (am_ln e.1 == 0 || am_ln e.1 == e.2.1) && am_okA q pc e
def am_chk (i : Nat) : Bool := match am_meth[i]?, am_code[i]?, am_size[i]? with
  | some q, some f, some n => (List.range n).all (fun pc => match f pc with
    | some e => am_okB q pc e
    | none => true)
  | _, _, _ => false
