/-! ===== the start: what the Statement gives, as the pure machine's first state ===== -/
def pm_pr9 : List Int32 := [2, 3, 5, 7, 11, 13, 17, 19, 23, 29, 31, 37, 41, 43, 47, 53, 59, 61, 67, 71, 73, 79, 83, 89, 97]
def pm_tl9 : List Int32 := [17, 4, 32, 60, 18, 32, 20, 34, 27, 44, 38, 52, 48, 52, 55, 58, 62, 68, 77, 74, 78, 83, 104, 104, 104]
/-- the things at the start: the script, PRIMES, TAILS, the texts -/
def pm_S0 (n : Nat) (xs : Nat → Int32) : pm_S := fun j => if j = 0 then .inl (0, n, .inl xs) else if j = 1 then .inl (0, 25, .inl (fun i => pm_pr9.getD i 0)) else if j = 2 then .inl (0, 25, .inl (fun i => pm_tl9.getD i 0)) else match pm_txt[j - 3]? with
  | some q => .inl (7, q.2.2.2.length, .inl (fun i => q.2.2.2.getD i 0))
  | none => .inl (9, 0, .inl (fun _ => 0))
def pm_M0 : pm_M := (32, 0, 0)
/-- the parts of the Statement's premise, by their places -/
def nr_l : List Cond := flatC (Jvm.Cond.and given_1 narrow_1)
def nr_tp : List Nat := [78, 140, 86, 96, 107, 117, 128, 291, 310, 330, 181, 351, 197, 215, 234, 252, 271]
set_option maxRecDepth 20000 in
theorem nr_P : nr_l[10]? = some (Cond.arrayOf (.static RX9 "PRIMES" "[I") .int) ∧ nr_l[11]? = some (Cond.eq (.length (.static RX9 "PRIMES" "[I")) (.int (Int32.ofNat 25))) ∧ ∀ j, j < 25 → nr_l[12 + j]? = some (Cond.eq (.elem (.static RX9 "PRIMES" "[I") (.int (Int32.ofNat j))) (.int (pm_pr9.getD j 0))) := by decide +kernel
set_option maxRecDepth 20000 in
theorem nr_T : nr_l[38]? = some (Cond.arrayOf (.static RX3 "TAILS" "[I") .int) ∧ nr_l[39]? = some (Cond.eq (.length (.static RX3 "TAILS" "[I")) (.int (Int32.ofNat 25))) ∧ ∀ j, j < 25 → nr_l[40 + j]? = some (Cond.eq (.elem (.static RX3 "TAILS" "[I") (.int (Int32.ofNat j))) (.int (pm_tl9.getD j 0))) := by decide +kernel
set_option maxRecDepth 20000 in
theorem nr_S : nr_l[4]? = some (Cond.eq (.static "java/lang/String" "COMPACT_STRINGS" "Z") (.int 1)) ∧ nr_l[5]? = some (Cond.isRef (.static "jdk/internal/util/Preconditions" "SIOOBE_FORMATTER" "Ljava/util/function/BiFunction;")) := by decide +kernel
def nr_tm (q : Nat × Nat × String × List Int32) : Term := .string (pm_cn q.1) q.2.1
def nr_ok (q : Nat × Nat × String × List Int32) (k : Nat) : Bool := decide (nr_l[k]? = some (Cond.exactly (nr_tm q) "java/lang/String")) && decide (nr_l[k + 1]? = some (Cond.eq (.field (nr_tm q) "java/lang/String" "coder" "B") (.int 0))) && decide (nr_l[k + 2]? = some (Cond.arrayOf (.field (nr_tm q) "java/lang/String" "value" "[B") .byte)) && decide (nr_l[k + 3]? = some (Cond.eq (.length (.field (nr_tm q) "java/lang/String" "value" "[B")) (.int (Int32.ofNat q.2.2.2.length)))) && (List.range q.2.2.2.length).all (fun j => decide (nr_l[k + 4 + j]? = some (Cond.eq (.elem (.field (nr_tm q) "java/lang/String" "value" "[B") (.int (Int32.ofNat j))) (.int (q.2.2.2.getD j 0)))))
set_option maxRecDepth 20000 in
theorem nr_X : ∀ i, i < 17 → nr_ok (pm_txt.getD i (0, 0, "", [])) (nr_tp.getD i 0) = true := by decide +kernel
