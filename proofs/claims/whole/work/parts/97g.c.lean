/-! ===== the constructors are run ===== -/
/-- the ints of the things that the constructors make -/
def sg0 : l2_m := fun a j => if a = 32 then (if j = 4 then -1 else 0) else if a = 36 ∨ a = 39 ∨ a = 52 then (if j = 2 then 1 else if j = 3 then 2 else 0) else if a = 74 then (if j = 3 then 79 else if j = 4 then 82 else 0) else if a = 109 then (if j = 15 then 126 else if j = 16 then 127 else 0) else if a = 110 then (if j = 4 ∨ j = 6 then 1 else 0) else if a = 186 then (if j = 2 then -1 else 0) else 0
def ccell (a : Nat) (q : Nat × Nat × List Nat) : cmC := if q.1 < 4 then .inl (q.1, q.2.1, if q.1 = 3 then q.2.2 else []) else .inr (q.1 - 10, q.2.2.mapIdx (fun j c => l2_fv sg0 a j c))
def cH0 : List cmC := l2_tab.mapIdx (fun i q => ccell (32 + i) q)
def c_chk : Bool := match crunT 279 23 40 0 (pm_ent 279 [.ref 0]) [] pm_M0 [] with
  | some (L, st, M, H) => decide (L = [.ref 0, .ref 32, .ref 186, .ref 211, .int 0, pm_un, pm_un]) && (decide (st = []) && (decide (M.1 = 212 ∧ M.2.1 = 180 ∧ M.2.2 = 258290) && decide (H = cH0)))
  | none => false
set_option maxRecDepth 100000 in
theorem c_chks : c_chk = true := by decide +kernel
theorem c_run : crunT 279 23 40 0 (pm_ent 279 [.ref 0]) [] pm_M0 [] = some ([.ref 0, .ref 32, .ref 186, .ref 211, .int 0, pm_un, pm_un], [], (212, 180, 258290), cH0) := by
  have h := c_chks
  unfold c_chk at h
  cases hr : crunT 279 23 40 0 (pm_ent 279 [.ref 0]) [] pm_M0 [] with
  | none => rw [hr] at h; cases h
  | some q =>
    obtain ⟨L, st, ⟨m1, m2, m3⟩, H⟩ := q
    rw [hr] at h
    dsimp only at h
    simp only [Bool.and_eq_true] at h
    obtain ⟨h1, h2, h3, h4⟩ := h
    have e1 := of_decide_eq_true h1
    have e2 := of_decide_eq_true h2
    have e3 := of_decide_eq_true h3
    have e4 := of_decide_eq_true h4
    have q1 : m1 = 212 := e3.1
    have q2 : m2 = 180 := e3.2.1
    have q3 : m3 = 258290 := e3.2.2
    rw [e1, e2, e4, q1, q2, q3]
def l2_sh : Bool := l2_tab.zipIdx.all (fun z => if z.1.1 < 4 then decide (z.1.1 < 4 ∧ ¬ (z.2 = 0 ∨ z.2 = 4 ∨ z.2 = 7 ∨ z.2 = 20 ∨ z.2 = 42 ∨ z.2 = 77 ∨ z.2 = 78 ∨ z.2 = 154)) else decide (10 ≤ z.1.1))
theorem l2_shs : l2_sh = true := by decide +kernel
theorem c_cell {i : Nat} {q : Nat × Nat × List Nat} (h : l2_tab[i]? = some q) : cmE (ccell (32 + i) q) = l2_cell sg0 (32 + i) q := by
  have hz := List.all_eq_true.mp l2_shs (q, i) (List.mem_of_getElem? (i := i) (by rw [List.getElem?_zipIdx, h]; simp))
  dsimp only at hz
  unfold ccell l2_cell
  by_cases h4 : q.1 < 4
  · rw [if_pos h4] at hz
    have hz' := of_decide_eq_true hz
    have z0 : ∀ j : Int, sg0 (32 + i) j = 0 := fun j => by
      unfold sg0
      rw [if_neg (by omega), if_neg (by omega), if_neg (by omega), if_neg (by omega), if_neg (by omega), if_neg (by omega)]
    rw [if_pos h4]
    unfold cmE
    dsimp only
    by_cases h3 : q.1 = 3
    · rw [if_pos h3, if_pos h3, if_pos h3]
    · rw [if_neg h3, if_neg h3]
      by_cases h2 : q.1 = 2
      · rw [if_pos h2, if_pos h2]
        congr 5
        funext j
        rw [z0]; rfl
      · rw [if_neg h2, if_neg h2, if_pos (by omega)]
        congr 4
        funext j
        rw [z0]; rfl
  · rw [if_neg h4] at hz
    have hz' := of_decide_eq_true hz
    rw [if_neg h4, if_neg (by omega), if_neg (by omega), if_neg (by omega)]
    rfl
theorem c_hp (B : va_E) : cmS B cH0 = hp B sg0 := by
  funext a
  unfold cmS hp
  by_cases h0 : a = 0
  · rw [if_pos h0, if_pos h0]
  · by_cases h1 : a < 32
    · rw [if_neg h0, if_pos h1, if_neg h0, if_pos h1]
    · rw [if_neg h0, if_neg h1, if_neg h0, if_neg h1]
      obtain ⟨i, rfl⟩ : ∃ i, a = 32 + i := ⟨a - 32, by omega⟩
      rw [Nat.add_sub_cancel_left]
      unfold cH0
      rw [List.getElem?_mapIdx]
      cases hq : l2_tab[i]? with
      | none => rfl
      | some q => exact c_cell hq
theorem c_S0 (n : Nat) (xs : Nat → Int32) : pm_S0 n xs = cmS (.inl (0, n, .inl xs)) [] := by
  funext a
  unfold cmS
  by_cases h0 : a = 0
  · rw [if_pos h0, h0]; rfl
  · rw [if_neg h0]
    have e : pm_S0 n xs a = pm_S0 0 (fun _ => 0) a := by
      unfold pm_S0
      rw [if_neg h0, if_neg h0]
    rw [e]
    by_cases h1 : a < 32
    · rw [if_pos h1]
    · rw [if_neg h1]
      unfold pm_S0
      rw [if_neg h0, if_neg (by omega), if_neg (by omega)]
      have hl : pm_txt[a - 3]? = none := List.getElem?_eq_none (by
        have : pm_txt.length ≤ 29 := by decide +kernel
        omega)
      rw [hl]
      rfl
theorem c_start {n : Nat} {xs : Nat → Int32} {Q : Option Value → pm_M → pm_S → Prop} (h : pm_W 279 23 [.ref 0, .ref 32, .ref 186, .ref 211, .int 0, pm_un, pm_un] [] (212, 180, 258290) (hp (.inl (0, n, .inl xs)) sg0) Q) : pm_W 279 0 (pm_ent 279 [.ref 0]) [] pm_M0 (pm_S0 n xs) Q := by
  rw [c_S0]
  exact crunT_ok 40 0 _ [] pm_M0 [] _ _ _ _ rfl c_run (by rw [c_hp]; exact h)
