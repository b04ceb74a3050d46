/-- an instruction of a class file by the tables: what the pure machine does -/
def pm_res (o pc : Nat) (raw : Instr) : Option Instr := match raw with
  | .iconst v => some (.iconst v)
  | .bipush v => if (Int8.ofInt v).toInt32 = Int32.ofInt v then some (.iconst v) else none
  | .sipush v => if (Int16.ofInt v).toInt32 = Int32.ofInt v then some (.iconst v) else none
  | .lconst v => some (.lconst v)
  | .iload j => some (.iload j)
  | .iload_n j => some (.iload j)
  | .aload j => some (.aload j)
  | .aload_n j => some (.aload j)
  | .lload_n j => some (.lload j)
  | .istore j => some (.istore j)
  | .istore_n j => some (.istore j)
  | .astore j => some (.astore j)
  | .astore_n j => some (.astore j)
  | .lstore_n j => some (.lstore j)
  | .iinc j d => some (.iinc j d)
  | .iadd => some .iadd
  | .isub => some .isub
  | .imul => some .imul
  | .idiv => some .idiv
  | .irem => some .irem
  | .iand => some .iand
  | .ior => some .ior
  | .ishl => some .ishl
  | .ishr => some .ishr
  | .ineg => some .ineg
  | .i2l => some .i2l
  | .i2b => some .i2b
  | .lshl => some .lshl
  | .lor => some .lor
  | .lcmp => some .lcmp
  | .dup => some .dup
  | .dup2 => some .dup2
  | .pop => some .pop
  | .goto d => if 0 ≤ (pc : Int) + d then some (.goto ((pc : Int) + d)) else none
  | .ifCond c d => if 0 ≤ (pc : Int) + d then some (.ifCond c ((pc : Int) + d)) else none
  | .if_icmp c d => if 0 ≤ (pc : Int) + d then some (.if_icmp c ((pc : Int) + d)) else none
  | .if_acmp .eq d => if 0 ≤ (pc : Int) + d then some (.if_acmp .eq ((pc : Int) + d)) else none
  | .tableswitch d lo hi offs => some (.tableswitch d lo hi offs)
  | .lookupswitch d ps => some (.lookupswitch d ps)
  | .getfield c => match (pm_fls.getD o []).find? (fun q => q.1 == c) with
    | some q => some (.getfield (64 * q.2.1 + q.2.2))
    | none => none
  | .putfield c => match (pm_fls.getD o []).find? (fun q => q.1 == c) with
    | some q => some (.putfield (64 * q.2.1 + q.2.2))
    | none => none
  | .getstatic c => match (pm_gss.getD o []).find? (fun q => q.1 == c) with
    | some q => some (.getstatic q.2.1)
    | none => none
  | .ldc c => match (pm_lds.getD o []).find? (fun q => q.1 == c) with
    | some q => if q.2.1 = 0 then some (.iconst (q.2.2 : Int)) else some (.ldc q.2.2)
    | none => none
  | .new c => if o = 9 ∧ c = 324 then some .athrow else match (pm_cls.getD o []).find? (fun q => q.1 == c) with
    | some q => some (.new q.2)
    | none => none
  | .newarray t => some (.newarray t)
  | .anewarray c => match (pm_als.getD o []).find? (fun q => q == c) with
    | some _ => some (.anewarray 3)
    | none => none
  | .arraylength => some .arraylength
  | .iaload => some .iaload
  | .iastore => some .iastore
  | .baload => some .baload
  | .bastore => some .bastore
  | .laload => some .laload
  | .aaload => some .aaload
  | .aastore => some .aastore
  | .ireturn => some .ireturn
  | .return_ => some .return_
  | .invokevirtual c => match (pm_mls.getD o []).find? (fun q => q.1 == c) with
    | some q => if q.2.1 < 1000 → pm_K q.2.1 = 0 then some (.invokevirtual q.2.1) else none
    | none => none
  | .invokespecial c => match (pm_mls.getD o []).find? (fun q => q.1 == c) with
    | some q => if q.2.1 < 1000 → pm_K q.2.1 = 2 then some (.invokespecial q.2.1) else none
    | none => none
  | .invokestatic c => match (pm_mls.getD o []).find? (fun q => q.1 == c) with
    | some q => if q.2.1 < 1000 → pm_K q.2.1 = 1 then some (.invokestatic q.2.1) else none
    | none => none
  | _ => none
/-- how long an instruction is; 0: its own affair -/
def pm_len (raw : Instr) : Nat := match raw with
  | .bipush _ => 2
  | .sipush _ => 3
  | .iload _ => 2
  | .aload _ => 2
  | .istore _ => 2
  | .astore _ => 2
  | .iinc _ _ => 3
  | .goto _ => 3
  | .ifCond _ _ => 3
  | .if_icmp _ _ => 3
  | .if_acmp _ _ => 3
  | .tableswitch _ _ _ _ => 0
  | .lookupswitch _ _ => 0
  | .getfield _ => 3
  | .putfield _ => 3
  | .getstatic _ => 3
  | .ldc _ => 2
  | .new _ => 3
  | .newarray _ => 2
  | .anewarray _ => 3
  | .invokevirtual _ => 3
  | .invokespecial _ => 3
  | .invokestatic _ => 3
  | _ => 1
/-- the room that an instruction wants of its method's -/
def pm_rm (k : Nat) (i : Instr) : Bool := match pm_call i with
  | some (q, _) => decide (pm_F q + 1 ≤ pm_F k ∧ 8 + (pm_L q + 11) + pm_J q ≤ pm_J k ∧ pm_na q ≤ pm_L q ∧ q ≠ pm_kC)
  | none => match i with
    | .athrow => decide (k = pm_kC)
    | .invokespecial q => decide (q = 1006 ∧ 1 ≤ pm_F k ∧ 20 ≤ pm_J k)
    | .invokestatic q => if q = 1003 then decide (1 ≤ pm_F k ∧ 40 ≤ pm_J k) else if q = 1007 then decide (8 ≤ pm_F k ∧ 136 ≤ pm_J k) else decide (1 ≤ pm_F k ∧ 21 ≤ pm_J k)
    | .invokevirtual _ => decide (5 ≤ pm_F k ∧ 110 ≤ pm_J k)
    | .putfield q => decide ((pm_fT (q / 64) (q % 64)).2.2.2 = true → pm_K k = 2 ∧ pm_O k = q / 64)
    | _ => true
/-- a row of the code tables is what decode says -/
def pm_row (k pc : Nat) (i : Instr) (n : Nat) : Bool := match decode (pm_B k) pc with
  | .ok (raw, n') => decide (n' = n ∧ (pm_len raw = 0 ∨ pm_len raw = n) ∧ pm_res (pm_O k) pc raw = some i) && pm_rm k i
  | _ => false
def pm_chk (k : Nat) : Nat → List (Instr × Nat) → Bool
  | _, [] => true
  | pc, (i, n) :: r => (decide (i = .nop) || pm_row k pc i n) && pm_chk k (pc + 1) r
theorem pm_chk_at {k : Nat} : ∀ {l : List (Instr × Nat)} {pc : Nat}, pm_chk k pc l = true → ∀ {j : Nat} {i : Instr} {n : Nat}, l[j]? = some (i, n) → i ≠ .nop → pm_row k (pc + j) i n = true
  | [], _, _, j, i, n, h, _ => by simp at h
  | (i0, n0) :: r, pc, hc, j, i, n, h, hn => by
    simp only [pm_chk, Bool.and_eq_true, Bool.or_eq_true, decide_eq_true_eq] at hc
    cases j with
    | zero =>
      simp only [List.getElem?_cons_zero, Option.some.injEq, Prod.mk.injEq] at h
      obtain ⟨rfl, rfl⟩ := h
      rcases hc.1 with h1 | h1
      · exact absurd h1 hn
      · exact h1
    | succ j =>
      rw [List.getElem?_cons_succ] at h
      have := pm_chk_at hc.2 h hn
      rwa [show pc + 1 + j = pc + (j + 1) by omega] at this
