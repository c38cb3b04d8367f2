/-! ===== the check of a program against the class file ===== -/
/-- a method: its name, bytes, locals, answer; the places of its words: code, instanceMethod or static, selects, initialized -/
abbrev am_I : Type := MethodName × ByteArray × Nat × Option FieldType × List Nat
def am_bp (code : List am_E) (pc : Nat) : Nat := match am_nth code pc with
  | some (b, _) => b
  | none => 0
/-- the pairs of a lookupswitch and the machine's -/
def am_ckl (code : List am_E) (b : Nat) : List (Int × Int) → List (Int32 × Nat) → Bool
  | [], [] => true
  | (v, o) :: r, (x, t) :: r2 => decide (x.toInt = v) && (decide ((b : Int) + o = (am_bp code t : Int)) && am_ckl code b r r2)
  | _, _ => false
/-- the rows of a tableswitch and the machine's -/
def am_ckt (code : List am_E) (b : Nat) (lo : Int) : List Int → List (Int32 × Nat) → Bool
  | [], [] => true
  | o :: r, (x, t) :: r2 => decide (x.toInt = lo) && (decide ((b : Int) + o = (am_bp code t : Int)) && am_ckt code b (lo + 1) r r2)
  | _, _ => false
def am_ckf (own : String) (idx : Nat) (put : Bool) : List Nat → Bool
  | ci :: f :: p :: _ => match am_cs[ci]? with
    | some (_, T, N) => decide (f < N) && (decide (lw_tbl[p]? = some (.fieldLink own idx (T f).1 (T f).2.1 (T f).2.2.1)) && (!put || !(T f).2.2.2))
    | none => false
  | _ => false
def am_rt (r : Option FieldType) : Nat := match r with
  | none => 0
  | _ => 1
def am_cks (inf : List am_I) (own : String) (idx : Nat) : List Nat → Bool
  | mi :: n :: rt :: 0 :: p :: [] => match am_nth inf mi with
    | some (y, _, _, ret, ps) => decide (lw_tbl[p]? = some (.methodLink own idx y)) && (decide ((parseMethodDescriptor y.desc).map (fun d => d.parameters.length) = some n) && (decide (rt = am_rt ret) && decide (ps.length = 3)))
    | none => false
  | mi :: n :: rt :: 0 :: p :: _ :: _ => match am_nth inf mi with
    | some (y, _, _, ret, ps) => decide (lw_tbl[p]? = some (.methodLinkNest own idx y "TownForest")) && (decide ((parseMethodDescriptor y.desc).map (fun d => d.parameters.length) = some n) && (decide (rt = am_rt ret) && decide (ps.length = 3)))
    | none => false
  | _ => false
def am_ckv (inf : List am_I) (own : String) (idx : Nat) : List Nat → Bool
  | mi :: (n + 1) :: rt :: (ci + 1) :: p :: _ => match am_nth inf mi with
    | some (y, _, _, ret, ps) => decide (lw_tbl[p]? = some (.methodLink own idx y)) && (decide ((parseMethodDescriptor y.desc).map (fun d => d.parameters.length) = some n) && (decide (rt = am_rt ret) && (decide (am_cs[ci]?.map (fun q => q.1) = some y.cls) && decide (ps.length = 4))))
    | none => false
  | _ => false
def am_cki (inf : List am_I) (code : List am_E) (own : String) (ret : Option FieldType) (pc b : Nat) (ins : Instr) (aux : List Nat) (cst : Int32) (sw : List (Int32 × Nat)) (nx : Nat → Bool) (ln : Nat) : Bool := match ins with
  | .iconst n => decide (Int32.ofInt n = cst) && nx 1
  | .bipush n => decide ((Int8.ofInt n).toInt32 = cst) && nx 2
  | .sipush n => decide ((Int16.ofInt n).toInt32 = cst) && nx 3
  | .ldc idx => match aux with
    | p :: _ => decide (lw_tbl[p]? = some (.constant own idx cst)) && nx 2
    | [] => true
  | .ldc2_w idx => match aux with
    | p :: _ => decide (lw_tbl[p]? = some (.constantLong own idx cst.toInt64)) && nx 3
    | [] => false
  | .iinc _ n => decide (Int32.ofInt n = cst) && nx 3
  | .goto o => match aux with
    | t :: _ => decide ((b : Int) + o = (am_bp code t : Int)) && decide (ln = 3)
    | [] => false
  | .ifCond _ o => match aux with
    | t :: _ => decide ((b : Int) + o = (am_bp code t : Int)) && nx 3
    | [] => false
  | .if_icmp _ o => match aux with
    | t :: _ => decide ((b : Int) + o = (am_bp code t : Int)) && nx 3
    | [] => false
  | .tableswitch d lo hi offs => match aux with
    | t :: _ => decide ((b : Int) + d = (am_bp code t : Int)) && (decide (hi + 1 = lo + (offs.toList.length : Int)) && am_ckt code b lo offs.toList sw)
    | [] => false
  | .lookupswitch d ps => match aux with
    | t :: _ => decide ((b : Int) + d = (am_bp code t : Int)) && ((ps.toList.zip (ps.toList.drop 1)).all (fun (a, next) => a.1 < next.1) && am_ckl code b ps.toList sw)
    | [] => false
  | .getfield idx => am_ckf own idx false aux && nx 3
  | .putfield idx => am_ckf own idx true aux && nx 3
  | .invokevirtual idx => am_ckv inf own idx aux && nx 3
  | .invokestatic idx => match aux with
    | [p] => decide (lw_tbl[p]? = some (.methodLink own idx arraycopyName)) && nx 3
    | [p, 0] => decide (lw_tbl[p]? = some (.methodLink own idx Lib.Math.max.name)) && nx 3
    | [p, 1] => decide (lw_tbl[p]? = some (.methodLink own idx Lib.Math.min.name)) && nx 3
    | aux => am_cks inf own idx aux && nx 3
  | .ireturn => match aux with
    | [] => decide (ret = some .int) && decide (ln = 1)
    | _ => decide (ret = some .boolean) && decide (ln = 1)
  | .return_ => decide (ret = none) && decide (ln = 1)
  | .new _ => true
  | .invokespecial _ => true
  | .athrow => true
  | .iload _ => nx 2
  | .aload _ => nx 2
  | .istore _ => nx 2
  | _ => nx 1
def am_ck (inf : List am_I) (code : List am_E) (own : String) (cc : ByteArray) (ret : Option FieldType) (pc : Nat) : Bool := match am_nth code pc with
  | some (b, ins, len, aux, cst, sw) => decide (decode cc b = .ok (ins, len)) && am_cki inf code own ret pc b ins aux cst sw (fun n => decide (len = n) && decide (am_bp code (pc + 1) = b + n)) len
  | none => true
/-- a method's words -/
def am_ckm (y : am_I) : Bool := match y with
  | (y, cc, maxL, ret, ps) => match ps with
    | p0 :: p1 :: p2 :: p3 :: [] => decide (lw_tbl[p0]? = some (.code y cc maxL ret)) && (decide (lw_tbl[p1]? = some (.instanceMethod y)) && (decide (lw_tbl[p2]? = some (.selects y.cls y y)) && (decide (lw_tbl[p3]? = some (.initialized y.cls)) && (plainName y.cls && (decide (maxL ≤ 19) && (decide (y.cls ≠ "java/lang/invoke/MethodHandle") && decide (y.cls ≠ "java/lang/invoke/VarHandle")))))))
    | p0 :: p1 :: p3 :: [] => decide (lw_tbl[p0]? = some (.code y cc maxL ret)) && (decide (lw_tbl[p1]? = some (.static y)) && (decide (lw_tbl[p3]? = some (.initialized y.cls)) && (plainName y.cls && (decide (maxL ≤ 19) && (decide (y.cls ≠ "java/lang/invoke/MethodHandle") && decide (y.cls ≠ "java/lang/invoke/VarHandle"))))))
    | _ => false
