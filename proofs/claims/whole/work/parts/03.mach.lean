/-! ===== THE PURE MACHINE: things have numbers 0, 1, 2 .. instead of addresses; a heap is a function from numbers to cells (va_E with these numbers in it); operands of instructions are resolved ===== -/
/-- how many things there are, cells and slots made so far -/
abbrev pm_M : Type := Nat × Nat × Nat
abbrev pm_S : Type := Nat → va_E
/-- where, the locals, the stack, the meters, the things -/
abbrev pm_T : Type := Nat × List Value × List Value × pm_M × pm_S
/-- things below this number are read alone: 0 the script, 1 PRIMES, 2 TAILS, 3 .. texts -/
abbrev pm_k : Nat := 32
/-- a local that isn't set -/
abbrev pm_un : Value := .retAddr 0
def pm_kill (L : List Value) (i : Nat) : List Value := match i with
  | 0 => L
  | j + 1 => match L[j]? with
    | some v => if v.category = 2 then L.set j pm_un else L
    | none => L
def pm_st1 (L : List Value) (i : Nat) (v : Value) : List Value := (pm_kill L i).set i v
def pm_st2 (L : List Value) (i : Nat) (v : Value) : List Value := ((pm_kill L i).set i v).set (i + 1) pm_un
/-- the types of fields, by the class's number -/
def pm_ty (ci : Nat) : Nat → FieldType := match ci with
  | 0 => tyX0 | 1 => tyX1 | 2 => tyX2 | 3 => tyX3 | 4 => tyX4 | 5 => tyX5 | 6 => tyX6 | 7 => tyX7 | 8 => tyX8 | 9 => tyX9 | _ => tyX10
/-- how many fields -/
def pm_nf (ci : Nat) : Nat := match ci with
  | 0 => 9 | 1 => 18 | 2 => 7 | 3 => 8 | 4 => 7 | 5 => 2 | 6 => 5 | 7 => 3 | 8 => 13 | 9 => 15 | _ => 53
/-- a new object's fields -/
def pm_df (ci : Nat) : List Value := (List.range (pm_nf ci)).map (fun j => defaultValue (pm_ty ci j))
/-- arrays: 0 int, 1 byte, 2 long, 3 of TermDesk$Poly -/
def pm_tag (t : Nat) : FieldType := match t with
  | 0 => .int | 1 => .byte | 2 => .long | _ => .object RX7
def pm_out (i : Int32) (n : Nat) : Prop := i < 0 ∨ n ≤ i.toNatClampNeg
def pm_cmp (c : Jvm.ClassFile.Cond) (a b : Int32) : Bool := match c with
  | .eq => a == b
  | .ne => !(a == b)
  | .lt => decide (a < b)
  | .ge => decide (b ≤ a)
  | .gt => decide (b < a)
  | .le => decide (a ≤ b)
/-- an instruction that is neither a call of a method of the tables nor a return -/
def pm_step (i : Instr) (n pc : Nat) (L st : List Value) (M : pm_M) (S : pm_S) : Option pm_T := match i with
  | .iconst v => some (pc + n, L, .int (Int32.ofInt v) :: st, M, S)
  | .lconst v => some (pc + n, L, .long (Int64.ofNat v) :: st, M, S)
  | .iload j => match L[j]? with
    | some (.int v) => some (pc + n, L, .int v :: st, M, S)
    | _ => none
  | .lload j => match L[j]? with
    | some (.long v) => some (pc + n, L, .long v :: st, M, S)
    | _ => none
  | .aload j => match L[j]? with
    | some (.ref v) => some (pc + n, L, .ref v :: st, M, S)
    | _ => none
  | .istore j => match st with
    | .int v :: r => if j < L.length then some (pc + n, pm_st1 L j (.int v), r, M, S) else none
    | _ => none
  | .astore j => match st with
    | .ref v :: r => if j < L.length then some (pc + n, pm_st1 L j (.ref v), r, M, S) else none
    | _ => none
  | .lstore j => match st with
    | .long v :: r => if j + 1 < L.length then some (pc + n, pm_st2 L j (.long v), r, M, S) else none
    | _ => none
  | .iinc j d => match L[j]? with
    | some (.int v) => if j < L.length then some (pc + n, pm_st1 L j (.int (v + Int32.ofInt d)), st, M, S) else none
    | _ => none
  | .iadd => match st with
    | .int b :: .int a :: r => some (pc + n, L, .int (a + b) :: r, M, S)
    | _ => none
  | .isub => match st with
    | .int b :: .int a :: r => some (pc + n, L, .int (a - b) :: r, M, S)
    | _ => none
  | .imul => match st with
    | .int b :: .int a :: r => some (pc + n, L, .int (a * b) :: r, M, S)
    | _ => none
  | .idiv => match st with
    | .int b :: .int a :: r => if b = 0 then none else some (pc + n, L, .int (a / b) :: r, M, S)
    | _ => none
  | .irem => match st with
    | .int b :: .int a :: r => if b = 0 then none else some (pc + n, L, .int (a - a / b * b) :: r, M, S)
    | _ => none
  | .iand => match st with
    | .int b :: .int a :: r => some (pc + n, L, .int (a &&& b) :: r, M, S)
    | _ => none
  | .ior => match st with
    | .int b :: .int a :: r => some (pc + n, L, .int (a ||| b) :: r, M, S)
    | _ => none
  | .ishl => match st with
    | .int b :: .int a :: r => some (pc + n, L, .int (a <<< (b &&& 31)) :: r, M, S)
    | _ => none
  | .ishr => match st with
    | .int b :: .int a :: r => some (pc + n, L, .int (a >>> (b &&& 31)) :: r, M, S)
    | _ => none
  | .ineg => match st with
    | .int a :: r => some (pc + n, L, .int (-a) :: r, M, S)
    | _ => none
  | .i2l => match st with
    | .int a :: r => some (pc + n, L, .long a.toInt64 :: r, M, S)
    | _ => none
  | .i2b => match st with
    | .int a :: r => some (pc + n, L, .int a.toInt8.toInt32 :: r, M, S)
    | _ => none
  | .lshl => match st with
    | .int b :: .long a :: r => some (pc + n, L, .long (a <<< (b.toInt64 &&& 63)) :: r, M, S)
    | _ => none
  | .lor => match st with
    | .long b :: .long a :: r => some (pc + n, L, .long (a ||| b) :: r, M, S)
    | _ => none
  | .lcmp => match st with
    | .long b :: .long a :: r => some (pc + n, L, .int (lg_cmp a b) :: r, M, S)
    | _ => none
  | .dup => match st with
    | a :: r => if a.category = 1 then some (pc + n, L, a :: a :: r, M, S) else none
    | _ => none
  | .dup2 => match st with
    | a :: b :: r => if a.category = 1 ∧ b.category = 1 then some (pc + n, L, a :: b :: a :: b :: r, M, S) else none
    | _ => none
  | .pop => match st with
    | a :: r => if a.category = 1 then some (pc + n, L, r, M, S) else none
    | _ => none
  | .goto t => some (t.toNat, L, st, M, S)
  | .ifCond c t => match st with
    | .int a :: r => if pm_cmp c a 0 = true then some (t.toNat, L, r, M, S) else some (pc + n, L, r, M, S)
    | _ => none
  | .if_icmp c t => match st with
    | .int b :: .int a :: r => if pm_cmp c a b = true then some (t.toNat, L, r, M, S) else some (pc + n, L, r, M, S)
    | _ => none
  | .if_acmp .eq t => match st with
    | .ref b :: .ref a :: r => if pm_k ≤ a ∧ pm_k ≤ b ∧ a < M.1 ∧ b < M.1 then (if a = b then some (t.toNat, L, r, M, S) else some (pc + n, L, r, M, S)) else none
    | _ => none
  | .tableswitch d lo hi offs => match st with
    | .int a :: r => if a.toInt < lo ∨ hi < a.toInt then (if 0 ≤ (pc : Int) + d then some (((pc : Int) + d).toNat, L, r, M, S) else none) else
      match offs[(a.toInt - lo).toNat]? with
      | some o => if 0 ≤ (pc : Int) + o then some (((pc : Int) + o).toNat, L, r, M, S) else none
      | none => none
    | _ => none
  | .lookupswitch d ps => match st with
    | .int a :: r => if (ps.toList.zip (ps.toList.drop 1)).all (fun (a, next) => a.1 < next.1) = true ∧ 0 ≤ (pc : Int) + Op.lookupswitch.offset ps.toList d a.toInt then some (((pc : Int) + Op.lookupswitch.offset ps.toList d a.toInt).toNat, L, r, M, S) else none
    | _ => none
  | .getfield q => match st with
    | .ref a :: r => match S a with
      | .inr (c, fs) => if pm_k ≤ a ∧ a < M.1 ∧ c = q / 64 ∧ q % 64 < pm_nf c then (match fs[q % 64]? with
        | some v => some (pc + n, L, v :: r, M, S)
        | none => none) else none
      | _ => none
    | _ => none
  | .putfield q => match st with
    | v :: .ref a :: r => match S a with
      | .inr (c, fs) => if pm_k ≤ a ∧ a < M.1 ∧ c = q / 64 ∧ q % 64 < pm_nf c ∧ q % 64 < fs.length ∧ fits (pm_ty c (q % 64)) v = true then some (pc + n, L, r, M, va_up S a (.inr (c, fs.set (q % 64) v))) else none
      | _ => none
    | _ => none
  | .getstatic q => some (pc + n, L, .ref q :: st, M, S)
  | .ldc q => some (pc + n, L, .ref q :: st, M, S)
  | .new c => some (pc + n, L, .ref M.1 :: st, (M.1 + 1, M.2.1 + 1, M.2.2 + pm_nf c), va_up S M.1 (.inr (c, pm_df c)))
  | .newarray t => match st with
    | .int v :: r => if v < 0 ∨ 1000000 < v.toNatClampNeg then none else
      match t with
      | .int => some (pc + n, L, .ref M.1 :: r, (M.1 + 1, M.2.1 + 1, M.2.2 + v.toNatClampNeg), va_up S M.1 (.inl (0, v.toNatClampNeg, .inl (fun _ => 0))))
      | .byte => some (pc + n, L, .ref M.1 :: r, (M.1 + 1, M.2.1 + 1, M.2.2 + v.toNatClampNeg), va_up S M.1 (.inl (1, v.toNatClampNeg, .inl (fun _ => 0))))
      | .long => some (pc + n, L, .ref M.1 :: r, (M.1 + 1, M.2.1 + 1, M.2.2 + v.toNatClampNeg), va_up S M.1 (.inl (2, v.toNatClampNeg, .inr (.inl (fun _ => 0)))))
      | _ => none
    | _ => none
  | .anewarray _ => match st with
    | .int v :: r => if v < 0 ∨ 1000000 < v.toNatClampNeg then none else some (pc + n, L, .ref M.1 :: r, (M.1 + 1, M.2.1 + 1, M.2.2 + v.toNatClampNeg), va_up S M.1 (.inl (3, v.toNatClampNeg, .inr (.inr (.inr (.inr (fun _ => none)))))))
    | _ => none
  | .arraylength => match st with
    | .ref a :: r => match S a with
      | .inl (t, m, _) => if a < M.1 ∧ t < 4 then some (pc + n, L, .int (Int32.ofNat m) :: r, M, S) else none
      | _ => none
    | _ => none
  | .iaload => match st with
    | .int j :: .ref a :: r => match S a with
      | .inl (0, m, .inl f) => if a < M.1 ∧ ¬ (j < 0 ∨ m ≤ j.toNatClampNeg) then some (pc + n, L, .int (f j.toNatClampNeg) :: r, M, S) else none
      | _ => none
    | _ => none
  | .iastore => match st with
    | .int v :: .int j :: .ref a :: r => match S a with
      | .inl (0, m, .inl f) => if pm_k ≤ a ∧ a < M.1 ∧ ¬ (j < 0 ∨ m ≤ j.toNatClampNeg) then some (pc + n, L, r, M, va_up S a (.inl (0, m, .inl (upd f j.toNatClampNeg v)))) else none
      | _ => none
    | _ => none
  | .baload => match st with
    | .int j :: .ref a :: r => match S a with
      | .inl (1, m, .inl f) => if pm_k ≤ a ∧ a < M.1 ∧ ¬ (j < 0 ∨ m ≤ j.toNatClampNeg) then some (pc + n, L, .int (f j.toNatClampNeg) :: r, M, S) else none
      | _ => none
    | _ => none
  | .bastore => match st with
    | .int v :: .int j :: .ref a :: r => match S a with
      | .inl (1, m, .inl f) => if pm_k ≤ a ∧ a < M.1 ∧ ¬ (j < 0 ∨ m ≤ j.toNatClampNeg) then some (pc + n, L, r, M, va_up S a (.inl (1, m, .inl (upd f j.toNatClampNeg (vp_nar .byte v))))) else none
      | _ => none
    | _ => none
  | .laload => match st with
    | .int j :: .ref a :: r => match S a with
      | .inl (2, m, .inr (.inl f)) => if pm_k ≤ a ∧ a < M.1 ∧ ¬ (j < 0 ∨ m ≤ j.toNatClampNeg) then some (pc + n, L, .long (f j.toNatClampNeg) :: r, M, S) else none
      | _ => none
    | _ => none
  | .aaload => match st with
    | .int j :: .ref a :: r => match S a with
      | .inl (3, m, .inr (.inr (.inr (.inr f)))) => if pm_k ≤ a ∧ a < M.1 ∧ ¬ (j < 0 ∨ m ≤ j.toNatClampNeg) then some (pc + n, L, va_rf (f j.toNatClampNeg) :: r, M, S) else none
      | _ => none
    | _ => none
  | .aastore => match st with
    | .ref v :: .int j :: .ref a :: r => match S a, S v with
      | .inl (3, m, .inr (.inr (.inr (.inr f)))), .inr (7, _) => if pm_k ≤ a ∧ a < M.1 ∧ pm_k ≤ v ∧ v < M.1 ∧ ¬ (j < 0 ∨ m ≤ j.toNatClampNeg) then some (pc + n, L, r, M, va_up S a (.inl (3, m, .inr (.inr (.inr (.inr (va_up f j.toNatClampNeg (some v)))))))) else none
      | _, _ => none
    | _ => none
  | .invokespecial _ => match st with
    | .ref _ :: r => if (r.map fun v => v.category).sum ≤ 8 then some (pc + n, L, r, M, S) else none
    | _ => none
  | .invokestatic q => if q = 1001 then (match st with
      | .int b :: .int a :: r => if (r.map fun v => v.category).sum ≤ 8 then some (pc + n, L, .int (if a < b then b else a) :: r, M, S) else none
      | _ => none) else if q = 1002 then (match st with
      | .int b :: .int a :: r => if (r.map fun v => v.category).sum ≤ 8 then some (pc + n, L, .int (if b < a then b else a) :: r, M, S) else none
      | _ => none) else if q = 1003 then (match st with
      | .int m :: .int dp :: .ref d :: .int sp :: .ref a :: r => match S a, S d with
        | .inl (0, n0, .inl f), .inl (0, n1, .inl g) => if pm_k ≤ a ∧ a < M.1 ∧ pm_k ≤ d ∧ d < M.1 ∧ ¬ sp < 0 ∧ ¬ dp < 0 ∧ ¬ m < 0 ∧ sp.toNatClampNeg + m.toNatClampNeg ≤ n0 ∧ dp.toNatClampNeg + m.toNatClampNeg ≤ n1 ∧ (r.map fun v => v.category).sum ≤ 8 then some (pc + n, L, r, M, va_up S d (.inl (0, n1, .inl (va_cpy f g sp.toNatClampNeg dp.toNatClampNeg m.toNatClampNeg)))) else none
        | _, _ => none
      | _ => none) else none
  | .invokevirtual q => if q = 1004 then (match st with
      | .ref a :: r => match S a with
        | .inl (7, m, _) => if a < pm_k ∧ (r.map fun v => v.category).sum ≤ 8 then some (pc + n, L, .int (Int32.ofNat m) :: r, M, S) else none
        | _ => none
      | _ => none) else if q = 1005 then (match st with
      | .int j :: .ref a :: r => match S a with
        | .inl (7, m, .inl f) => if a < pm_k ∧ ¬ (j < 0 ∨ m ≤ j.toNatClampNeg) ∧ (r.map fun v => v.category).sum ≤ 8 then some (pc + n, L, .int (f j.toNatClampNeg) :: r, M, S) else none
        | _ => none
      | _ => none) else none
  | _ => none
/-- a call of a method of the tables: its number, whether it has a receiver -/
def pm_call (i : Instr) : Option (Nat × Bool) := match i with
  | .invokevirtual q => if q < 1000 then some (q, true) else none
  | .invokespecial q => if q < 1000 then some (q, true) else none
  | .invokestatic q => if q < 1000 then some (q, false) else none
  | _ => none
def pm_ret (i : Instr) (st : List Value) : Option (Option Value) := match i with
  | .ireturn => match st with
    | [.int v] => some (some (.int v))
    | _ => none
  | .return_ => match st with
    | [] => some none
    | _ => none
  | .athrow => match st with
    | [] => some (some .null)
    | _ => none
  | _ => none
def pm_rok (r : Option FieldType) (v : Option Value) : Bool := match r, v with
  | none, none => true
  | some ty, some v => fits ty v
  | _, _ => false
