/-! ===== the constructors: a machine of lists, that can be run ===== -/
abbrev cmC : Type := (Nat × Nat × List Nat) ⊕ (Nat × List Value)
def cmE (c : cmC) : va_E := match c with
  | .inl (t, n, rs) => if t = 3 then .inl (3, n, .inr (.inr (.inr (.inr (fun j => rs[j]?))))) else if t = 2 then .inl (2, n, .inr (.inl (fun _ => 0))) else .inl (t, n, .inl (fun _ => 0))
  | .inr (c, fs) => .inr (c, fs)
def cmS (B : va_E) (H : List cmC) : pm_S := fun a => if a = 0 then B else if a < 32 then pm_S0 0 (fun _ => 0) a else match H[a - 32]? with
  | some c => cmE c
  | none => .inl (9, 0, .inl (fun _ => 0))
theorem cmS_at {B : va_E} {H : List cmC} {a : Nat} {c : cmC} (h : 32 ≤ a) (hc : H[a - 32]? = some c) : cmS B H a = cmE c := by
  unfold cmS
  rw [if_neg (by omega), if_neg (by omega), hc]
theorem cmS_new {B : va_E} {H : List cmC} {m : Nat} (c : cmC) (hm : m = 32 + H.length) : va_up (cmS B H) m (cmE c) = cmS B (H ++ [c]) := by
  funext a
  unfold va_up
  by_cases ha : a = m
  · rw [if_pos ha, cmS_at (c := c) (by omega) (by rw [ha, hm, Nat.add_sub_cancel_left, List.getElem?_append_right (Nat.le_refl _), Nat.sub_self]; rfl)]
  · rw [if_neg ha]
    unfold cmS
    by_cases h0 : a = 0
    · rw [if_pos h0, if_pos h0]
    · by_cases h1 : a < 32
      · rw [if_neg h0, if_pos h1, if_neg h0, if_pos h1]
      · rw [if_neg h0, if_neg h1, if_neg h0, if_neg h1]
        by_cases h2 : a - 32 < H.length
        · rw [List.getElem?_append_left h2]
        · have e1 : H[a - 32]? = none := List.getElem?_eq_none (by omega)
          have e2 : (H ++ [c])[a - 32]? = none := List.getElem?_eq_none (by rw [List.length_append, List.length_singleton]; omega)
          rw [e1, e2]
theorem cmS_set {B : va_E} {H : List cmC} {a : Nat} (c : cmC) (h : 32 ≤ a) (hl : a - 32 < H.length) : va_up (cmS B H) a (cmE c) = cmS B (H.set (a - 32) c) := by
  funext b
  unfold va_up
  by_cases hb : b = a
  · rw [if_pos hb, hb, cmS_at (c := c) h (by rw [List.getElem?_set, if_pos rfl, if_pos hl])]
  · rw [if_neg hb]
    unfold cmS
    by_cases h0 : b = 0
    · rw [if_pos h0, if_pos h0]
    · by_cases h1 : b < 32
      · rw [if_neg h0, if_pos h1, if_neg h0, if_pos h1]
      · rw [if_neg h0, if_neg h1, if_neg h0, if_neg h1, List.getElem?_set, if_neg (by omega)]
abbrev cmT : Type := Nat × List Value × List Value × pm_M × List cmC
def cstep (i : Instr) (n pc : Nat) (L st : List Value) (M : pm_M) (H : List cmC) : Option cmT := match i with
  | .iconst v => some (pc + n, L, .int (Int32.ofInt v) :: st, M, H)
  | .iload j => match L[j]? with
    | some (.int v) => some (pc + n, L, .int v :: st, M, H)
    | _ => none
  | .aload j => match L[j]? with
    | some (.ref v) => some (pc + n, L, .ref v :: st, M, H)
    | _ => none
  | .istore j => match st with
    | .int v :: r => if j < L.length then some (pc + n, pm_st1 L j (.int v), r, M, H) else none
    | _ => none
  | .astore j => match st with
    | .ref v :: r => if j < L.length then some (pc + n, pm_st1 L j (.ref v), r, M, H) else none
    | _ => none
  | .iinc j d => match L[j]? with
    | some (.int v) => if j < L.length then some (pc + n, pm_st1 L j (.int (v + Int32.ofInt d)), st, M, H) else none
    | _ => none
  | .dup => match st with
    | a :: r => if a.category = 1 then some (pc + n, L, a :: a :: r, M, H) else none
    | _ => none
  | .goto t => some (t.toNat, L, st, M, H)
  | .if_icmp c t => match st with
    | .int b :: .int a :: r => if pm_cmp c a b = true then some (t.toNat, L, r, M, H) else some (pc + n, L, r, M, H)
    | _ => none
  | .getfield q => match st with
    | .ref a :: r => match H[a - 32]? with
      | some (.inr (c, fs)) => if 32 ≤ a ∧ a < M.1 ∧ c = q / 64 ∧ q % 64 < pm_nf c then (match fs[q % 64]? with
        | some v => some (pc + n, L, v :: r, M, H)
        | none => none) else none
      | _ => none
    | _ => none
  | .putfield q => match st with
    | v :: .ref a :: r => match H[a - 32]? with
      | some (.inr (c, fs)) => if 32 ≤ a ∧ a < M.1 ∧ c = q / 64 ∧ q % 64 < pm_nf c ∧ q % 64 < fs.length ∧ fits (pm_ty c (q % 64)) v = true then some (pc + n, L, r, M, H.set (a - 32) (.inr (c, fs.set (q % 64) v))) else none
      | _ => none
    | _ => none
  | .new c => some (pc + n, L, .ref M.1 :: st, (M.1 + 1, M.2.1 + 1, M.2.2 + pm_nf c), H ++ [.inr (c, pm_df c)])
  | .newarray t => match st with
    | .int v :: r => if v < 0 ∨ 1000000 < v.toNatClampNeg then none else
      match t with
      | .int => some (pc + n, L, .ref M.1 :: r, (M.1 + 1, M.2.1 + 1, M.2.2 + v.toNatClampNeg), H ++ [.inl (0, v.toNatClampNeg, [])])
      | .byte => some (pc + n, L, .ref M.1 :: r, (M.1 + 1, M.2.1 + 1, M.2.2 + v.toNatClampNeg), H ++ [.inl (1, v.toNatClampNeg, [])])
      | .long => some (pc + n, L, .ref M.1 :: r, (M.1 + 1, M.2.1 + 1, M.2.2 + v.toNatClampNeg), H ++ [.inl (2, v.toNatClampNeg, [])])
      | _ => none
    | _ => none
  | .anewarray _ => match st with
    | .int v :: r => if v < 0 ∨ 1000000 < v.toNatClampNeg then none else some (pc + n, L, .ref M.1 :: r, (M.1 + 1, M.2.1 + 1, M.2.2 + v.toNatClampNeg), H ++ [.inl (3, v.toNatClampNeg, [])])
    | _ => none
  | .aastore => match st with
    | .ref v :: .int j :: .ref a :: r => match H[a - 32]?, H[v - 32]? with
      | some (.inl (3, m, rs)), some (.inr (7, _)) => if 32 ≤ a ∧ a < M.1 ∧ 32 ≤ v ∧ v < M.1 ∧ ¬ (j < 0 ∨ m ≤ j.toNatClampNeg) ∧ j.toNatClampNeg = rs.length then some (pc + n, L, r, M, H.set (a - 32) (.inl (3, m, rs ++ [v]))) else none
      | _, _ => none
    | _ => none
  | .invokespecial _ => match st with
    | .ref _ :: r => if (r.map fun v => v.category).sum ≤ 8 then some (pc + n, L, r, M, H) else none
    | _ => none
  | _ => none
theorem rs_app (rs : List Nat) (v : Nat) : va_up (fun j => rs[j]?) rs.length (some v) = fun j => (rs ++ [v])[j]? := by
  funext j
  unfold va_up
  by_cases hj : j = rs.length
  · rw [if_pos hj, hj, List.getElem?_append_right (Nat.le_refl _), Nat.sub_self]; rfl
  · rw [if_neg hj]
    by_cases h2 : j < rs.length
    · rw [List.getElem?_append_left h2]
    · show rs[j]? = (rs ++ [v])[j]?
      have e1 : rs[j]? = none := List.getElem?_eq_none (by omega)
      have e2 : (rs ++ [v])[j]? = none := List.getElem?_eq_none (by rw [List.length_append, List.length_singleton]; omega)
      rw [e1, e2]
theorem cstep_ok {B : va_E} {i : Instr} {n pc pc' : Nat} {L st L' st' : List Value} {M M' : pm_M} {H H' : List cmC} (hM : M.1 = 32 + H.length) (h : cstep i n pc L st M H = some (pc', L', st', M', H')) : pm_step i n pc L st M (cmS B H) = some (pc', L', st', M', cmS B H') ∧ M'.1 = 32 + H'.length := by
  unfold cstep at h
  split at h
  · cases h; exact ⟨rfl, hM⟩
  · split at h
    · rename_i hl
      cases h; exact ⟨by simp only [pm_step, hl], hM⟩
    · cases h
  · split at h
    · rename_i hl
      cases h; exact ⟨by simp only [pm_step, hl], hM⟩
    · cases h
  · split at h
    · split at h
      · rename_i hl
        cases h; exact ⟨by simp only [pm_step, if_pos hl], hM⟩
      · cases h
    · cases h
  · split at h
    · split at h
      · rename_i hl
        cases h; exact ⟨by simp only [pm_step, if_pos hl], hM⟩
      · cases h
    · cases h
  · split at h
    · rename_i hv
      split at h
      · rename_i hl
        cases h; exact ⟨by simp only [pm_step, hv, if_pos hl], hM⟩
      · cases h
    · cases h
  · split at h
    · split at h
      · rename_i hl
        cases h; exact ⟨by simp only [pm_step, if_pos hl], hM⟩
      · cases h
    · cases h
  · cases h; exact ⟨rfl, hM⟩
  · split at h
    · split at h
      · rename_i hl
        cases h; exact ⟨by simp only [pm_step, if_pos hl], hM⟩
      · rename_i hl
        cases h; exact ⟨by simp only [pm_step, if_neg hl], hM⟩
    · cases h
  · split at h
    · split at h
      · rename_i hc
        split at h
        · rename_i hl
          split at h
          · rename_i hv
            cases h
            exact ⟨by simp only [pm_step, cmS_at hl.1 hc, cmE]; rw [if_pos hl, hv], hM⟩
          · cases h
        · cases h
      · cases h
    · cases h
  · split at h
    · split at h
      · rename_i a r x c fs hc
        split at h
        · rename_i hl
          cases h
          have hlt := (List.getElem?_eq_some_iff.mp hc).1
          refine ⟨?_, by rw [List.length_set]; exact hM⟩
          simp only [pm_step, cmS_at hl.1 hc, cmE]
          rw [if_pos hl, ← cmS_set _ hl.1 hlt]
          rfl
        · cases h
      · cases h
    · cases h
  · cases h
    refine ⟨?_, by rw [List.length_append, List.length_singleton]; show M.1 + 1 = _; omega⟩
    simp only [pm_step]
    rw [← cmS_new _ hM]
    rfl
  · split at h
    · split at h
      · cases h
      · rename_i hl
        split at h
        · cases h
          refine ⟨?_, by rw [List.length_append, List.length_singleton]; show M.1 + 1 = _; omega⟩
          simp only [pm_step]
          rw [if_neg hl, ← cmS_new _ hM]
          rfl
        · cases h
          refine ⟨?_, by rw [List.length_append, List.length_singleton]; show M.1 + 1 = _; omega⟩
          simp only [pm_step]
          rw [if_neg hl, ← cmS_new _ hM]
          rfl
        · cases h
          refine ⟨?_, by rw [List.length_append, List.length_singleton]; show M.1 + 1 = _; omega⟩
          simp only [pm_step]
          rw [if_neg hl, ← cmS_new _ hM]
          rfl
        · cases h
    · cases h
  · split at h
    · split at h
      · cases h
      · rename_i hl
        cases h
        refine ⟨?_, by rw [List.length_append, List.length_singleton]; show M.1 + 1 = _; omega⟩
        simp only [pm_step]
        rw [if_neg hl, ← cmS_new _ hM]
        rfl
    · cases h
  · split at h
    · split at h
      · rename_i m rs x hc hv
        split at h
        · rename_i hl
          cases h
          have hlt := (List.getElem?_eq_some_iff.mp hc).1
          refine ⟨?_, by rw [List.length_set]; exact hM⟩
          simp only [pm_step, cmS_at hl.1 hc, cmS_at hl.2.2.1 hv, cmE]
          rw [if_pos trivial]
          have key := And.intro hl.1 (And.intro hl.2.1 (And.intro hl.2.2.1 (And.intro hl.2.2.2.1 hl.2.2.2.2.1)))
          refine Eq.trans (if_pos key) ?_
          rw [hl.2.2.2.2.2, rs_app, ← cmS_set _ hl.1 hlt]
          rfl
        · cases h
      · cases h
    · cases h
  · split at h
    · split at h
      · rename_i hl
        cases h; exact ⟨by simp only [pm_step, if_pos hl], hM⟩
      · cases h
    · cases h
  · cases h
