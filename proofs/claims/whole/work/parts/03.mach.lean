/-! ===== an abstract machine: a method's run over one memory of ints; cells are named by a code c and a number i ===== -/
/-- a value: an int, a long, a cell -/
abbrev am_V : Type := Int32 ⊕ (Int64 ⊕ (Nat × Nat))
abbrev am_G : Type := Nat → Nat → Nat → Int32
abbrev am_L : Type := List (Option am_V)
abbrev am_R : Type := Option am_V × am_G
/-- an instruction: its byte, itself, its length, places, a constant, a switch -/
abbrev am_E : Type := Nat × Instr × Nat × List Nat × Int32 × List (Int32 × Nat)
abbrev am_T : Type := Nat → List am_V → am_G → Option am_R
def am_nth {α : Type} : List α → Nat → Option α
  | [], _ => none
  | a :: _, 0 => some a
  | _ :: l, n + 1 => am_nth l n
def am_set (g : am_G) (c i : Nat) (f : Nat → Int32) : am_G := fun c' i' => if c' = c ∧ i' = i then f else g c' i'
def am_put (g : am_G) (c i : Nat) (x : Int32) : am_G := am_set g c i (fun _ => x)
def am_sto (g : am_G) (c i k : Nat) (x : Int32) : am_G := am_set g c i (upd (g c i) k x)
def am_in (j : Int32) (n : Nat) : Bool := decide (0 ≤ j.toInt) && decide (j.toInt < n)
def am_01 (x : Int32) : Bool := decide (x = 0) || decide (x = 1)
/-- what a cell is: an object (its class, its fields), an int array (its length), an array of cells (its length, their code, the first one's number).
A field: (0, c) an int at c; (1, c) the cell of code c and the same number; (2, c, b) the cell (c, b); (3, c) a long; (4, c) the reader's bytes; (5, c) a boolean -/
abbrev am_Y : Type := (Nat × List (Nat × Nat × Nat)) ⊕ (Nat ⊕ (Nat × Nat × Nat))
section AM
variable {α : Type}
def am_i1 (st : List am_V) (k : Int32 → List am_V → Option α) : Option α := match st with
  | .inl x :: r => k x r
  | _ => none
def am_i2 (st : List am_V) (k : Int32 → Int32 → List am_V → Option α) : Option α := match st with
  | .inl y :: .inl x :: r => k x y r
  | _ => none
def am_l1 (st : List am_V) (k : Int64 → List am_V → Option α) : Option α := match st with
  | .inr (.inl x) :: r => k x r
  | _ => none
def am_l2 (st : List am_V) (k : Int64 → Int64 → List am_V → Option α) : Option α := match st with
  | .inr (.inl y) :: .inr (.inl x) :: r => k x y r
  | _ => none
def am_r1 (st : List am_V) (k : Nat → Nat → List am_V → Option α) : Option α := match st with
  | .inr (.inr (c, i)) :: r => k c i r
  | _ => none
def am_ldi (ls : am_L) (j : Nat) (k : Int32 → Option α) : Option α := match am_nth ls j with
  | some (some (.inl x)) => k x
  | _ => none
def am_ldr (ls : am_L) (j : Nat) (k : Nat → Nat → Option α) : Option α := match am_nth ls j with
  | some (some (.inr (.inr (c, i)))) => k c i
  | _ => none
def am_stl (ls : am_L) (j : Nat) (v : am_V) (k : am_L → Option α) : Option α := match am_nth ls j with
  | some _ => k (ls.set j (some v))
  | none => none
/-- behind a call that answers an int -/
def am_bi (o : Option am_R) (k : Int32 → am_G → Option α) : Option α := match o with
  | some (some (.inl x), g) => k x g
  | _ => none
def am_bv (o : Option am_R) (k : am_G → Option α) : Option α := match o with
  | some (none, g) => k g
  | _ => none
def am_sw (l : List (Int32 × Nat)) (d : Nat) (x : Int32) (k : Nat → Option α) : Option α := match l with
  | [] => k d
  | (v, t) :: r => if x = v then k t else am_sw r d x k
def am_obj (y : Option am_Y) (ci : Nat) (k : List (Nat × Nat × Nat) → Option α) : Option α := match y with
  | some (.inl (cj, fs)) => bif cj == ci then k fs else none
  | _ => none
def am_arr (y : Option am_Y) (k : Nat → Option α) : Option α := match y with
  | some (.inr (.inl n)) => k n
  | _ => none
def am_rar (y : Option am_Y) (k : Nat → Nat → Nat → Option α) : Option α := match y with
  | some (.inr (.inr (n, c, o))) => k n c o
  | _ => none
def am_gf (g : am_G) (i : Nat) (f : Option (Nat × Nat × Nat)) (k : am_V → Option α) : Option α := match f with
  | some (0, c, _) => k (.inl (g c i 0))
  | some (1, c, _) => k (.inr (.inr (c, i)))
  | some (2, c, b) => k (.inr (.inr (c, b)))
  | some (3, c, _) => k (.inr (.inl (g c i 0).toInt64))
  | some (4, c, _) => if g c i 0 = 0 then none else k (.inr (.inr (13, 0)))
  | some (5, c, _) => k (.inl (g c i 0))
  | _ => none
def am_pi (g : am_G) (i : Nat) (f : Option (Nat × Nat × Nat)) (v : am_V) (k : am_G → Option α) : Option α := match f, v with
  | some (0, c, _), .inl x => k (am_put g c i x)
  | some (3, c, _), .inr (.inl y) => if y.toInt32.toInt64 = y then k (am_put g c i y.toInt32) else none
  | some (4, c, _), .inr (.inr (13, 0)) => k (am_put g c i 1)
  | some (5, c, _), .inl x => bif am_01 x then k (am_put g c i x) else none
  | _, _ => none
/-- the answer of a call: 0 nothing, else an int -/
def am_bk (rt : Nat) (o : Option am_R) (rest : List am_V) (k : List am_V → am_G → Option α) : Option α := match rt with
  | 0 => am_bv o (fun g => k rest g)
  | _ => am_bi o (fun x g => k (.inl x :: rest) g)
def am_nl (v : am_V) : Bool := match v with
  | .inr (.inl _) => false
  | _ => true
/-- a call: aux = [method, how many values, kind of its answer, class of the object + 1 (0: static), ..] -/
def am_cl (lay : Nat → Option am_Y) (ct : am_T) (aux : List Nat) (st : List am_V) (g : am_G) (k : List am_V → am_G → Option α) : Option α := match aux with
  | mi :: n :: rt :: 0 :: _ => bif decide (n ≤ st.length) && (decide ((st.drop n).length ≤ 4) && (st.take n).all am_nl) then am_bk rt (ct mi (st.take n).reverse g) (st.drop n) k else none
  | mi :: (n + 1) :: rt :: (ci + 1) :: _ => bif decide ((st.drop n).length ≤ 5) && (st.take n).all am_nl then am_r1 (st.drop n) (fun c i r => am_obj (lay c) ci (fun _ => am_bk rt (ct mi (.inr (.inr (c, i)) :: (st.take n).reverse) g) r k)) else none
  | _ => none
/-- System.arraycopy over int arrays -/
def am_cp (lay : Nat → Option am_Y) (st : List am_V) (g : am_G) (k : List am_V → am_G → Option α) : Option α := match st with
  | .inl n :: .inl dp :: .inr (.inr (c1, i1)) :: .inl sp :: .inr (.inr (c0, i0)) :: r =>
    am_arr (lay c0) (fun n0 => am_arr (lay c1) (fun n1 => bif decide (¬ sp < 0) && decide (¬ dp < 0) && decide (¬ n < 0) && decide (sp.toNatClampNeg + n.toNatClampNeg ≤ n0) && decide (dp.toNatClampNeg + n.toNatClampNeg ≤ n1) && decide (r.length ≤ 4)
      then k r (am_set g c1 i1 (va_cpy (g c0 i0) (g c1 i1) sp.toNatClampNeg dp.toNatClampNeg n.toNatClampNeg)) else none))
  | _ => none
def am_step (lay : Nat → Option am_Y) (ct : am_T) (ins : Instr) (aux : List Nat) (cst : Int32) (sw : List (Int32 × Nat)) (pc : Nat) (ls : am_L) (st : List am_V) (g : am_G) (K : Nat → am_L → List am_V → am_G → Option α) (ret : Option am_V → am_G → Option α) : Option α := match ins with
  | .iconst _ => K (pc + 1) ls (.inl cst :: st) g
  | .bipush _ => K (pc + 1) ls (.inl cst :: st) g
  | .sipush _ => K (pc + 1) ls (.inl cst :: st) g
  | .ldc _ => match aux with
    | _ :: _ => K (pc + 1) ls (.inl cst :: st) g
    | [] => none
  | .ldc2_w _ => K (pc + 1) ls (.inr (.inl cst.toInt64) :: st) g
  | .iload_n j => am_ldi ls j (fun x => K (pc + 1) ls (.inl x :: st) g)
  | .iload j => am_ldi ls j (fun x => K (pc + 1) ls (.inl x :: st) g)
  | .aload_n j => am_ldr ls j (fun c i => K (pc + 1) ls (.inr (.inr (c, i)) :: st) g)
  | .aload j => am_ldr ls j (fun c i => K (pc + 1) ls (.inr (.inr (c, i)) :: st) g)
  | .istore_n j => am_i1 st (fun x r => am_stl ls j (.inl x) (fun ls => K (pc + 1) ls r g))
  | .istore j => am_i1 st (fun x r => am_stl ls j (.inl x) (fun ls => K (pc + 1) ls r g))
  | .iinc j _ => am_ldi ls j (fun x => am_stl ls j (.inl (x + cst)) (fun ls => K (pc + 1) ls st g))
  | .iadd => am_i2 st (fun x y r => K (pc + 1) ls (.inl (x + y) :: r) g)
  | .isub => am_i2 st (fun x y r => K (pc + 1) ls (.inl (x - y) :: r) g)
  | .imul => am_i2 st (fun x y r => K (pc + 1) ls (.inl (x * y) :: r) g)
  | .irem => am_i2 st (fun x y r => if y = 0 then none else K (pc + 1) ls (.inl (x - x / y * y) :: r) g)
  | .ineg => am_i1 st (fun x r => K (pc + 1) ls (.inl (-x) :: r) g)
  | .ishl => am_i2 st (fun x y r => K (pc + 1) ls (.inl (x <<< (y &&& 31)) :: r) g)
  | .ishr => am_i2 st (fun x y r => K (pc + 1) ls (.inl (x >>> (y &&& 31)) :: r) g)
  | .iand => am_i2 st (fun x y r => K (pc + 1) ls (.inl (x &&& y) :: r) g)
  | .ior => am_i2 st (fun x y r => K (pc + 1) ls (.inl (x ||| y) :: r) g)
  | .i2l => am_i1 st (fun x r => K (pc + 1) ls (.inr (.inl x.toInt64) :: r) g)
  | .l2i => am_l1 st (fun x r => K (pc + 1) ls (.inl x.toInt32 :: r) g)
  | .lmul => am_l2 st (fun x y r => K (pc + 1) ls (.inr (.inl (x * y)) :: r) g)
  | .ladd => am_l2 st (fun x y r => K (pc + 1) ls (.inr (.inl (x + y)) :: r) g)
  | .land => am_l2 st (fun x y r => K (pc + 1) ls (.inr (.inl (x &&& y)) :: r) g)
  | .ldiv => am_l2 st (fun x y r => if y = 0 then none else K (pc + 1) ls (.inr (.inl (x / y)) :: r) g)
  | .lrem => am_l2 st (fun x y r => if y = 0 then none else K (pc + 1) ls (.inr (.inl (x - x / y * y)) :: r) g)
  | .dup => match st with
    | .inl x :: r => K (pc + 1) ls (.inl x :: .inl x :: r) g
    | .inr (.inr x) :: r => K (pc + 1) ls (.inr (.inr x) :: .inr (.inr x) :: r) g
    | _ => none
  | .dup2 => match st with
    | .inl y :: .inr (.inr x) :: r => K (pc + 1) ls (.inl y :: .inr (.inr x) :: .inl y :: .inr (.inr x) :: r) g
    | _ => none
  | .pop => am_i1 st (fun _ r => K (pc + 1) ls r g)
  | .goto _ => match aux with
    | t :: _ => K t ls st g
    | _ => none
  | .ifCond q _ => match aux with
    | t :: _ => am_i1 st (fun x r => match q with
      | .eq => if x = 0 then K t ls r g else K (pc + 1) ls r g
      | .ne => if x = 0 then K (pc + 1) ls r g else K t ls r g
      | .lt => if x < 0 then K t ls r g else K (pc + 1) ls r g
      | .ge => if 0 ≤ x then K t ls r g else K (pc + 1) ls r g
      | .gt => if 0 < x then K t ls r g else K (pc + 1) ls r g
      | .le => if x ≤ 0 then K t ls r g else K (pc + 1) ls r g)
    | _ => none
  | .if_icmp q _ => match aux with
    | t :: _ => am_i2 st (fun x y r => match q with
      | .eq => if x = y then K t ls r g else K (pc + 1) ls r g
      | .ne => if x = y then K (pc + 1) ls r g else K t ls r g
      | .lt => if x < y then K t ls r g else K (pc + 1) ls r g
      | .ge => if y ≤ x then K t ls r g else K (pc + 1) ls r g
      | .gt => if y < x then K t ls r g else K (pc + 1) ls r g
      | .le => if x ≤ y then K t ls r g else K (pc + 1) ls r g)
    | _ => none
  | .tableswitch _ _ _ _ => match aux with
    | t :: _ => am_i1 st (fun x r => am_sw sw t x (fun t => K t ls r g))
    | _ => none
  | .lookupswitch _ _ => match aux with
    | t :: _ => am_i1 st (fun x r => am_sw sw t x (fun t => K t ls r g))
    | _ => none
  | .getfield _ => match aux with
    | ci :: f :: _ => am_r1 st (fun c i r => am_obj (lay c) ci (fun fs => am_gf g i (am_nth fs f) (fun v => K (pc + 1) ls (v :: r) g)))
    | _ => none
  | .putfield _ => match aux with
    | ci :: f :: _ => (match st with
      | v :: r => am_r1 r (fun c i r => am_obj (lay c) ci (fun fs => am_pi g i (am_nth fs f) v (fun g => K (pc + 1) ls r g)))
      | _ => none)
    | _ => none
  | .iaload => am_i1 st (fun j r => am_r1 r (fun c i r => am_arr (lay c) (fun n => bif am_in j n then K (pc + 1) ls (.inl (g c i j.toNatClampNeg) :: r) g else none)))
  | .iastore => am_i2 st (fun j x r => am_r1 r (fun c i r => am_arr (lay c) (fun n => bif am_in j n then K (pc + 1) ls r (am_sto g c i j.toNatClampNeg x) else none)))
  | .aaload => am_i1 st (fun j r => am_r1 r (fun c _ r => am_rar (lay c) (fun n c' o => bif am_in j n then K (pc + 1) ls (.inr (.inr (c', o + j.toNatClampNeg)) :: r) g else none)))
  | .arraylength => am_r1 st (fun c _ r => am_arr (lay c) (fun n => K (pc + 1) ls (.inl (nI n) :: r) g))
  | .invokevirtual _ => am_cl lay ct aux st g (fun st g => K (pc + 1) ls st g)
  | .invokestatic _ => match aux with
    | [_] => am_cp lay st g (fun st g => K (pc + 1) ls st g)
    | [_, 0] => am_i2 st (fun x y r => bif decide (r.length ≤ 8) then K (pc + 1) ls (.inl (if x < y then y else x) :: r) g else none)
    | [_, 1] => am_i2 st (fun x y r => bif decide (r.length ≤ 8) then K (pc + 1) ls (.inl (if y < x then y else x) :: r) g else none)
    | _ => am_cl lay ct aux st g (fun st g => K (pc + 1) ls st g)
  | .ireturn => match st, aux with
    | [.inl x], [_] => bif am_01 x then ret (some (.inl x)) g else none
    | [.inl x], [] => ret (some (.inl x)) g
    | _, _ => none
  | .return_ => match st with
    | [] => ret none g
    | _ => none
  | _ => none
def am_exec (lay : Nat → Option am_Y) (ct : am_T) (code : List am_E) (cut : List Nat) (stop : Nat → am_L → List am_V → am_G → Option α) (ret : Option am_V → am_G → Option α) : Nat → Nat → am_L → List am_V → am_G → Option α
  | 0, _, _, _, _ => none
  | k + 1, pc, ls, st, g => match am_nth code pc with
    | none => none
    | some (_, ins, _, aux, cst, sw) => am_step lay ct ins aux cst sw pc ls st g (fun pc' ls' st' g' => bif cut.elem pc' then stop pc' ls' st' g' else am_exec lay ct code cut stop ret k pc' ls' st' g') ret
end AM
