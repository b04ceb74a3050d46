/-! ===== the machine of lists runs ===== -/
def cmok (k : Nat) (as rest : List Value) (M : pm_M) (H : List cmC) : Bool := (pm_K k != 1) && (decide ((rest.map fun v => v.category).sum ≤ 8) && (as.all (fun v => v.category == 1) && (match as with
  | .ref b :: _ => decide (32 ≤ b ∧ b < M.1) && (match H[b - 32]? with
    | some (.inr (c, _)) => c == pm_O k
    | _ => false)
  | _ => false)))
theorem cmok_ok {B : va_E} {k : Nat} {as rest : List Value} {M : pm_M} {H : List cmC} (h : cmok k as rest M H = true) : pm_cok k as rest M (cmS B H) = true := by
  unfold cmok at h
  unfold pm_cok pm_rcv
  simp only [Bool.and_eq_true] at h ⊢
  obtain ⟨h1, h2, h3, h4⟩ := h
  refine ⟨h2, h3, ?_⟩
  have hk : ¬ pm_K k = 1 := by
    intro w
    rw [w] at h1
    exact absurd h1 (by decide)
  rw [if_neg hk]
  split at h4
  · rename_i b r
    simp only [Bool.and_eq_true] at h4 ⊢
    refine ⟨h4.1, ?_⟩
    have hb : 32 ≤ b ∧ b < M.1 := of_decide_eq_true h4.1
    have h5 := h4.2
    split at h5
    · rename_i c fs hc
      rw [cmS_at hb.1 hc]
      exact h5
    · cases h5
  · cases h4
abbrev cG : Type := Nat → Nat → List Value → List Value → pm_M → List cmC → Option (Option Value × pm_M × List cmC)
def cbody (g : cG) : cG := fun k pc L st M H => match (pm_code k)[pc]? with
  | none => none
  | some (i, n) => match pm_call i with
    | some (q, _) => if pm_na q ≤ st.length ∧ cmok q (st.take (pm_na q)).reverse (st.drop (pm_na q)) M H = true then (match g q 0 (pm_ent q (st.take (pm_na q)).reverse) [] M H with
      | some (r, M', H') => g k (pc + 3) L (r.toList ++ st.drop (pm_na q)) M' H'
      | none => none) else none
    | none => match pm_ret i st with
      | some r => if pm_rok (pm_R k) r = true then some (r, M, H) else none
      | none => if i = .invokestatic 1007 then none else (match cstep i n pc L st M H with
        | some (pc', L', st', M', H') => g k pc' L' st' M' H'
        | none => none)
def crun : Nat → cG
  | 0 => fun _ _ _ _ _ _ => none
  | n + 1 => cbody (crun n)
theorem crun_ok {B : va_E} : ∀ (n k pc : Nat) (L st : List Value) (M : pm_M) (H : List cmC) (r : Option Value) (M' : pm_M) (H' : List cmC), M.1 = 32 + H.length → crun n k pc L st M H = some (r, M', H') → pm_run n k pc L st M (cmS B H) = some (r, M', cmS B H') ∧ M'.1 = 32 + H'.length
  | 0, _, _, _, _, _, _, _, _, _, _, h => by cases h
  | n + 1, k, pc, L, st, M, H, r, M', H', hM, h => by
    have h0 : cbody (crun n) k pc L st M H = some (r, M', H') := h
    show pm_body (pm_run n) k pc L st M (cmS B H) = _ ∧ _
    unfold cbody at h0
    unfold pm_body
    cases hc : (pm_code k)[pc]? with
    | none => rw [hc] at h0; cases h0
    | some q =>
      obtain ⟨i, w⟩ := q
      rw [hc] at h0
      dsimp only at h0 ⊢
      cases hq : pm_call i with
      | some q =>
        obtain ⟨q, b⟩ := q
        rw [hq] at h0
        dsimp only at h0 ⊢
        split at h0
        · rename_i h1
          rw [if_pos ⟨h1.1, cmok_ok h1.2⟩]
          split at h0
          · rename_i r1 M1 H1 he
            obtain ⟨e1, e2⟩ := crun_ok n q 0 _ [] M H r1 M1 H1 hM he
            rw [e1]
            exact crun_ok n k _ L _ M1 H1 r M' H' e2 h0
          · cases h0
        · cases h0
      | none =>
        rw [hq] at h0
        dsimp only at h0 ⊢
        cases hr : pm_ret i st with
        | some r1 =>
          rw [hr] at h0
          dsimp only at h0 ⊢
          split at h0
          · rename_i h1
            cases h0
            rw [if_pos (Or.inl h1)]
            exact ⟨rfl, hM⟩
          · cases h0
        | none =>
          rw [hr] at h0
          dsimp only at h0 ⊢
          split at h0
          · cases h0
          · rename_i h1
            rw [if_neg h1]
            split at h0
            · rename_i a1 a2 a3 a4 a5 he
              obtain ⟨e1, e2⟩ := cstep_ok (B := B) hM he
              rw [e1]
              exact crun_ok n k a1 a2 a3 a4 a5 r M' H' e2 h0
            · cases h0
def crunT (k tgt : Nat) : Nat → Nat → List Value → List Value → pm_M → List cmC → Option (List Value × List Value × pm_M × List cmC)
  | 0, _, _, _, _, _ => none
  | n + 1, pc, L, st, M, H => if pc = tgt then some (L, st, M, H) else match (pm_code k)[pc]? with
    | none => none
    | some (i, w) => match pm_call i with
      | some (q, _) => if pm_na q ≤ st.length ∧ cmok q (st.take (pm_na q)).reverse (st.drop (pm_na q)) M H = true then (match crun 400 q 0 (pm_ent q (st.take (pm_na q)).reverse) [] M H with
        | some (r, M', H') => crunT k tgt n (pc + 3) L (r.toList ++ st.drop (pm_na q)) M' H'
        | none => none) else none
      | none => match pm_ret i st with
        | some _ => none
        | none => if i = .invokestatic 1007 then none else (match cstep i w pc L st M H with
          | some (pc', L', st', M', H') => crunT k tgt n pc' L' st' M' H'
          | none => none)
theorem crunT_ok {B : va_E} {k tgt : Nat} {Q : Option Value → pm_M → pm_S → Prop} : ∀ (n pc : Nat) (L st : List Value) (M : pm_M) (H : List cmC) (L' st' : List Value) (M' : pm_M) (H' : List cmC), M.1 = 32 + H.length → crunT k tgt n pc L st M H = some (L', st', M', H') → pm_W k tgt L' st' M' (cmS B H') Q → pm_W k pc L st M (cmS B H) Q
  | 0, _, _, _, _, _, _, _, _, _, _, h, _ => by cases h
  | n + 1, pc, L, st, M, H, L', st', M', H', hM, h, hW => by
    unfold crunT at h
    split at h
    · rename_i hp
      cases h
      rw [hp]; exact hW
    · split at h
      · cases h
      · rename_i i w hc
        split at h
        · rename_i q b hq
          split at h
          · rename_i h1
            split at h
            · rename_i r1 M1 H1 he
              obtain ⟨e1, e2⟩ := crun_ok (B := B) 400 q 0 _ [] M H r1 M1 H1 hM he
              have ih := crunT_ok n (pc + 3) L _ M1 H1 L' st' M' H' e2 h hW
              refine pm_cal (as := (st.take (pm_na q)).reverse) (rest := st.drop (pm_na q)) hc hq ?_ ?_ (cmok_ok h1.2) ⟨400, r1, M1, cmS B H1, e1, ih⟩
              · rw [List.length_reverse, List.length_take]; omega
              · rw [List.reverse_reverse, List.take_append_drop]
            · cases h
          · cases h
        · rename_i hq
          split at h
          · cases h
          · rename_i hr
            split at h
            · cases h
            · rename_i h1
              split at h
              · rename_i a1 a2 a3 a4 a5 he
                obtain ⟨e1, e2⟩ := cstep_ok (B := B) hM he
                exact pm_go hc hq hr h1 e1 (crunT_ok n a1 a2 a3 a4 a5 L' st' M' H' e2 h hW)
              · cases h
