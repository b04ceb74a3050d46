abbrev pm_G : Type := Nat → Nat → List Value → List Value → pm_M → pm_S → Option (Option Value × pm_M × pm_S)
/-- the number of TermDesk.constant, which may throw -/
abbrev pm_kC : Nat := 142
/-- how many things a call takes off the stack -/
def pm_na (k : Nat) : Nat := if pm_K k = 1 then pm_N k else pm_N k + 1
/-- the receiver's class is the method's -/
def pm_rcv (k : Nat) (as : List Value) (M : pm_M) (S : pm_S) : Bool := if pm_K k = 1 then true else match as with
  | .ref b :: _ => decide (pm_k ≤ b ∧ b < M.1) && (match S b with
    | .inr (c, _) => c == pm_O k
    | _ => false)
  | _ => false
def pm_cok (k : Nat) (as rest : List Value) (M : pm_M) (S : pm_S) : Bool := decide ((rest.map fun v => v.category).sum ≤ 8) && (as.all (fun v => v.category == 1) && pm_rcv k as M S)
/-- the locals at a method's entry -/
def pm_ent (k : Nat) (as : List Value) : List Value := as ++ List.replicate (pm_L k - as.length) pm_un
/-- the call of TermDeskLaw.constant: what TermDesk.constant answers comes into the row, or it throws -/
def pm_cst (g : pm_G) (k pc : Nat) (L st : List Value) (M : pm_M) (S : pm_S) : Option (Option Value × pm_M × pm_S) := match st with
  | .ref o :: .int j :: .ref b :: r => if (r.map fun v => v.category).sum ≤ 8 ∧ pm_k ≤ o ∧ o < M.1 ∧ pm_rcv pm_kC [.ref b, .int j] M S = true then (match g pm_kC 0 (pm_ent pm_kC [.ref b, .int j]) [] M S with
    | some (some (.int v), M', S') => match S' o with
      | .inl (2, m, .inr (.inl f)) => if 0 < m ∧ M' = M then g k (pc + 3) L (.int 0 :: r) M' (va_up S' o (.inl (2, m, .inr (.inl (vp_updL f 0 v.toInt64))))) else none
      | _ => none
    | some (some .null, M', S') => if M' = M then g k (pc + 3) L (.int 1 :: r) (M'.1, M'.2.1 + 1, M'.2.2 + 6) S' else none
    | _ => none) else none
  | _ => none
def pm_body (g : pm_G) : pm_G := fun k pc L st M S => match (pm_code k)[pc]? with
  | none => none
  | some (i, n) => match pm_call i with
    | some (q, _) => if pm_na q ≤ st.length ∧ pm_cok q (st.take (pm_na q)).reverse (st.drop (pm_na q)) M S = true then (match g q 0 (pm_ent q (st.take (pm_na q)).reverse) [] M S with
      | some (r, M', S') => g k (pc + 3) L (r.toList ++ st.drop (pm_na q)) M' S'
      | none => none) else none
    | none => match pm_ret i st with
      | some r => if pm_rok (pm_R k) r = true ∨ r = some .null then some (r, M, S) else none
      | none => if i = .invokestatic 1007 then pm_cst g k pc L st M S else (match pm_step i n pc L st M S with
        | some (pc', L', st', M', S') => g k pc' L' st' M' S'
        | none => none)
def pm_run : Nat → pm_G
  | 0 => fun _ _ _ _ _ _ => none
  | n + 1 => pm_body (pm_run n)
theorem pm_cst_mono {g g' : pm_G} (hg : ∀ k pc L st M S r, g k pc L st M S = some r → g' k pc L st M S = some r) {k pc : Nat} {L st : List Value} {M : pm_M} {S : pm_S} {r : Option Value × pm_M × pm_S} (h : pm_cst g k pc L st M S = some r) : pm_cst g' k pc L st M S = some r := by
  unfold pm_cst at h ⊢
  split at h
  · rename_i o j b rr
    split at h
    · rename_i hc
      rw [if_pos hc]
      split at h
      · rename_i v M' S' he
        rw [hg _ _ _ _ _ _ _ he]
        dsimp only
        split at h
        · rename_i m f hS
          split at h
          · rename_i h3
            rw [if_pos h3]
            exact hg _ _ _ _ _ _ _ h
          · cases h
        · cases h
      · rename_i M' S' he
        rw [hg _ _ _ _ _ _ _ he]
        dsimp only
        split at h
        · rename_i h3
          rw [if_pos h3]
          exact hg _ _ _ _ _ _ _ h
        · cases h
      · cases h
    · cases h
  · cases h
theorem pm_body_mono {g g' : pm_G} (hg : ∀ k pc L st M S r, g k pc L st M S = some r → g' k pc L st M S = some r) {k pc : Nat} {L st : List Value} {M : pm_M} {S : pm_S} {r : Option Value × pm_M × pm_S} (h : pm_body g k pc L st M S = some r) : pm_body g' k pc L st M S = some r := by
  unfold pm_body at h ⊢
  cases hc : (pm_code k)[pc]? with
  | none => rw [hc] at h; cases h
  | some q =>
    obtain ⟨i, n⟩ := q
    rw [hc] at h
    dsimp only at h ⊢
    cases hq : pm_call i with
    | some q =>
      obtain ⟨q, b⟩ := q
      rw [hq] at h
      dsimp only at h ⊢
      split at h
      · rename_i h1
        rw [if_pos h1]
        split at h
        · rename_i r1 M1 S1 he
          rw [hg _ _ _ _ _ _ _ he]
          exact hg _ _ _ _ _ _ _ h
        · cases h
      · cases h
    | none =>
      rw [hq] at h
      dsimp only at h ⊢
      cases hr : pm_ret i st with
      | some r1 => rw [hr] at h; exact h
      | none =>
        rw [hr] at h
        dsimp only at h ⊢
        split at h
        · rename_i h1
          rw [if_pos h1]
          exact pm_cst_mono hg h
        · rename_i h1
          rw [if_neg h1]
          split at h
          · rename_i a1 a2 a3 a4 a5 he
            exact hg _ _ _ _ _ _ _ h
          · cases h
theorem pm_mono1 : ∀ (n k pc : Nat) (L st : List Value) (M : pm_M) (S : pm_S) (r : Option Value × pm_M × pm_S), pm_run n k pc L st M S = some r → pm_run (n + 1) k pc L st M S = some r
  | 0, _, _, _, _, _, _, _, h => by cases h
  | n + 1, _, _, _, _, _, _, _, h => pm_body_mono (pm_mono1 n) h
theorem pm_mono {n m k pc : Nat} {L st : List Value} {M : pm_M} {S : pm_S} {r : Option Value × pm_M × pm_S} (hm : n ≤ m) (h : pm_run n k pc L st M S = some r) : pm_run m k pc L st M S = some r := by
  induction m with
  | zero => cases Nat.le_zero.mp hm; exact h
  | succ m ih =>
    rcases Nat.lt_or_ge n (m + 1) with h1 | h1
    · exact pm_mono1 _ _ _ _ _ _ _ _ (ih (by omega))
    · have : n = m + 1 := by omega
      rw [← this]; exact h
/-- the machine comes to an end of this method with Q -/
def pm_W (k pc : Nat) (L st : List Value) (M : pm_M) (S : pm_S) (Q : Option Value → pm_M → pm_S → Prop) : Prop := ∃ (n : Nat) (r : Option Value) (M' : pm_M) (S' : pm_S), pm_run n k pc L st M S = some (r, M', S') ∧ Q r M' S'
/-- a call comes to its end with Q -/
def pm_C (k : Nat) (as : List Value) (M : pm_M) (S : pm_S) (Q : Option Value → pm_M → pm_S → Prop) : Prop := pm_W k 0 (pm_ent k as) [] M S Q
theorem pm_W.mono {k pc : Nat} {L st : List Value} {M : pm_M} {S : pm_S} {Q Q' : Option Value → pm_M → pm_S → Prop} (h : pm_W k pc L st M S Q) (hq : ∀ r M' S', Q r M' S' → Q' r M' S') : pm_W k pc L st M S Q' := by
  obtain ⟨n, r, M', S', h1, h2⟩ := h
  exact ⟨n, r, M', S', h1, hq _ _ _ h2⟩
/-- an instruction -/
theorem pm_go {i : Instr} {n k pc pc' : Nat} {L st L' st' : List Value} {M M' : pm_M} {S S' : pm_S} {Q : Option Value → pm_M → pm_S → Prop} (hc : (pm_code k)[pc]? = some (i, n)) (h1 : pm_call i = none) (h2 : pm_ret i st = none) (h3 : i ≠ .invokestatic 1007) (hs : pm_step i n pc L st M S = some (pc', L', st', M', S')) (h : pm_W k pc' L' st' M' S' Q) : pm_W k pc L st M S Q := by
  obtain ⟨m, r, M1, S1, h4, h5⟩ := h
  refine ⟨m + 1, r, M1, S1, ?_, h5⟩
  show pm_body (pm_run m) k pc L st M S = _
  unfold pm_body
  rw [hc]
  dsimp only
  rw [h1]
  dsimp only
  rw [h2]
  dsimp only
  rw [if_neg h3, hs]
  exact h4
/-- a call -/
theorem pm_cal {i : Instr} {n k pc q : Nat} {b : Bool} {L st as rest : List Value} {M : pm_M} {S : pm_S} {Q : Option Value → pm_M → pm_S → Prop} (hc : (pm_code k)[pc]? = some (i, n)) (h1 : pm_call i = some (q, b)) (hn : as.length = pm_na q) (hst : st = as.reverse ++ rest) (hok : pm_cok q as rest M S = true) (h : pm_C q as M S (fun r M' S' => pm_W k (pc + 3) L (r.toList ++ rest) M' S' Q)) : pm_W k pc L st M S Q := by
  obtain ⟨m, r, M1, S1, h4, m2, r2, M2, S2, h5, h6⟩ := h
  refine ⟨max m m2 + 1, r2, M2, S2, ?_, h6⟩
  show pm_body (pm_run (max m m2)) k pc L st M S = _
  unfold pm_body
  rw [hc]
  dsimp only
  rw [h1]
  dsimp only
  have e1 : st.take (pm_na q) = as.reverse := by rw [hst, ← hn, ← List.length_reverse, List.take_left]
  have e2 : st.drop (pm_na q) = rest := by rw [hst, ← hn, ← List.length_reverse, List.drop_left]
  rw [e1, e2, List.reverse_reverse]
  rw [if_pos ⟨by rw [hst, List.length_append, List.length_reverse]; omega, hok⟩]
  rw [pm_mono (Nat.le_max_left m m2) h4]
  exact pm_mono (Nat.le_max_right m m2) h5
/-- a return -/
theorem pm_end {i : Instr} {n k pc : Nat} {L st : List Value} {r : Option Value} {M : pm_M} {S : pm_S} {Q : Option Value → pm_M → pm_S → Prop} (hc : (pm_code k)[pc]? = some (i, n)) (h1 : pm_call i = none) (h2 : pm_ret i st = some r) (h3 : pm_rok (pm_R k) r = true) (h : Q r M S) : pm_W k pc L st M S Q := by
  refine ⟨1, r, M, S, ?_, h⟩
  show pm_body (pm_run 0) k pc L st M S = _
  unfold pm_body
  rw [hc]
  dsimp only
  rw [h1]
  dsimp only
  rw [h2]
  dsimp only
  rw [if_pos (Or.inl h3)]
