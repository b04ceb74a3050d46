/-! ===== the law: rules ===== -/
def lW (B : va_E) (t pc : Nat) (L st : List Value) (σ : l2_m) : Prop := ∀ M : pm_M, M.1 = 212 → M.2.1 ≤ 180 + t → M.2.2 ≤ 258290 + 6 * t → pm_W 279 pc L st M (hp B σ) (fun r M' _ => r = some (.int 1) ∧ M'.2.1 ≤ 601024 ∧ M'.2.2 ≤ 7293034)
section LAW
variable {B : va_E} {t pc n : Nat} {L L' st : List Value} {σ : l2_m}
theorem lW_mono {t' : Nat} (h : lW B t' pc L st σ) (ht : t ≤ t') : lW B t pc L st σ := fun M h1 h2 h3 => h M h1 (by omega) (by omega)
theorem l_go {i : Instr} {st' : List Value} {pc' : Nat} (hc : (pm_code 279)[pc]? = some (i, n)) (h1 : pm_call i = none) (h2 : pm_ret i st = none) (h3 : i ≠ .invokestatic 1007) (hs : ∀ M : pm_M, M.1 = 212 → pm_step i n pc L st M (hp B σ) = some (pc', L', st', M, hp B σ)) (h : lW B t pc' L' st' σ) : lW B t pc L st σ := fun M q1 q2 q3 => pm_go hc h1 h2 h3 (hs M q1) (h M q1 q2 q3)
theorem l_call {i : Instr} {q a c : Nat} {b : Bool} {as rest : List Value} {ty : FieldType} (hc : (pm_code 279)[pc]? = some (i, n)) (h1 : pm_call i = some (q, b)) (hK : pm_K q = 0) (hO : pm_O q = c) (hR : pm_R q = some ty) (h42 : q ≠ 142) (ha : l2_cl a = some c) (hn : as.length + 1 = pm_na q) (hst : st = as.reverse ++ (.ref a :: rest)) (h2 : as.all (fun v => v.category == 1) = true) (h3 : (rest.map fun v => v.category).sum ≤ 8) (h : wC B q (.ref a :: as) σ (fun x σ' => lW B t (pc + 3) L (vi x :: rest) σ')) : lW B t pc L st σ := fun M q1 q2 q3 => by
  refine pm_cal hc h1 (as := .ref a :: as) (rest := rest) (by rw [← hn]; rfl) (by rw [hst]; simp) (l2_cok q1 hK hO ha h2 h3) ((h M q1).mono (fun r M' S' hq => ?_))
  obtain ⟨rfl, x, σ', rfl, rfl, h9⟩ := hq
  unfold l2_rv
  rw [hR]
  dsimp only
  rw [if_neg (fun z => h42 z.1)]
  exact h9 M' q1 q2 q3
end LAW
/-- the call of the law's constant -/
theorem pm_cstW {k pc n o b : Nat} {j : Int32} {L rest : List Value} {M : pm_M} {S : pm_S} {Q : Option Value → pm_M → pm_S → Prop} (hc : (pm_code k)[pc]? = some (.invokestatic 1007, n)) (hok : (rest.map fun v => v.category).sum ≤ 8 ∧ pm_k ≤ o ∧ o < M.1 ∧ pm_rcv pm_kC [.ref b, .int j] M S = true) (h : pm_C pm_kC [.ref b, .int j] M S (fun r M' S' => (∃ (v : Int32) (m : Nat) (f : Nat → Int64), r = some (.int v) ∧ S' o = .inl (2, m, .inr (.inl f)) ∧ 0 < m ∧ M' = M ∧ pm_W k (pc + 3) L (.int 0 :: rest) M' (va_up S' o (.inl (2, m, .inr (.inl (vp_updL f 0 v.toInt64))))) Q) ∨ (r = some .null ∧ M' = M ∧ pm_W k (pc + 3) L (.int 1 :: rest) (M'.1, M'.2.1 + 1, M'.2.2 + 6) S' Q))) : pm_W k pc L (.ref o :: .int j :: .ref b :: rest) M S Q := by
  obtain ⟨n1, r, M', S', h4, h5⟩ := h
  rcases h5 with ⟨v, m, f, rfl, e1, e2, rfl, n2, r2, M2, S2, h6, h7⟩ | ⟨rfl, rfl, n2, r2, M2, S2, h6, h7⟩
  · refine ⟨max n1 n2 + 1, r2, M2, S2, ?_, h7⟩
    show pm_body (pm_run (max n1 n2)) k pc L _ M' S = _
    unfold pm_body
    rw [hc]
    dsimp only
    rw [show pm_call (.invokestatic 1007) = none from rfl]
    dsimp only
    rw [show pm_ret (.invokestatic 1007) (.ref o :: .int j :: .ref b :: rest) = none from rfl]
    dsimp only
    rw [if_pos rfl]
    unfold pm_cst
    dsimp only
    rw [if_pos hok, pm_mono (Nat.le_max_left n1 n2) h4]
    dsimp only
    rw [e1]
    exact (if_pos (show 0 < m ∧ M' = M' from ⟨e2, rfl⟩)).trans (pm_mono (Nat.le_max_right n1 n2) h6)
  · refine ⟨max n1 n2 + 1, r2, M2, S2, ?_, h7⟩
    show pm_body (pm_run (max n1 n2)) k pc L _ M' S = _
    unfold pm_body
    rw [hc]
    dsimp only
    rw [show pm_call (.invokestatic 1007) = none from rfl]
    dsimp only
    rw [show pm_ret (.invokestatic 1007) (.ref o :: .int j :: .ref b :: rest) = none from rfl]
    dsimp only
    rw [if_pos rfl]
    unfold pm_cst
    dsimp only
    rw [if_pos hok, pm_mono (Nat.le_max_left n1 n2) h4]
    dsimp only
    rw [if_pos rfl]
    exact pm_mono (Nat.le_max_right n1 n2) h6
/-- where the law's rows of arguments end -/
def laS (j : Nat) : Nat := if j < 6 then 1 else 2
def laE : Nat → Nat → Nat → Nat
  | pc, _, 0 => pc
  | pc, j, m + 1 => laE (pc + 5 + laS j) (j + 1) m
def laOK : Nat → Nat → Nat → Bool
  | _, _, 0 => true
  | pc, j, m + 1 => decide ((pm_code 279)[pc]? = some (.aload 0, 1)) && (decide ((pm_code 279)[pc + 1]? = some (.iload 4, 2)) && (decide ((pm_code 279)[pc + 3]? = some (.iconst (j : Int), laS j)) && (decide ((pm_code 279)[pc + 3 + laS j]? = some (.iadd, 1)) && (decide ((pm_code 279)[pc + 4 + laS j]? = some (.iaload, 1)) && laOK (pc + 5 + laS j) (j + 1) m))))
def ags (xs : Nat → Int32) (i : Nat) : Nat → Nat → List Value
  | _, 0 => []
  | j, m + 1 => .int (xs (i + j)) :: ags xs i (j + 1) m
theorem ags_len (xs : Nat → Int32) (i : Nat) : ∀ j m : Nat, (ags xs i j m).length = m
  | _, 0 => rfl
  | j, m + 1 => by show (ags xs i (j + 1) m).length + 1 = m + 1; rw [ags_len xs i (j + 1) m]
theorem ags_cat (xs : Nat → Int32) (i : Nat) : ∀ j m : Nat, (ags xs i j m).all (fun v => v.category == 1) = true
  | _, 0 => rfl
  | j, m + 1 => by
    show ((Value.int (xs (i + j))).category == 1 && (ags xs i (j + 1) m).all (fun v => v.category == 1)) = true
    rw [ags_cat xs i (j + 1) m]; rfl
/-- the law's locals -/
abbrev lL (i : Nat) (v w : Value) : List Value := [.ref 0, .ref 32, .ref 186, .ref 211, vi (i : Int), v, w]
abbrev lB (N : Nat) (xs : Nat → Int32) : va_E := .inl (0, N, .inl xs)
theorem hp_0 (B : va_E) (σ : l2_m) : hp B σ 0 = B := rfl
theorem l_arg {t pc j i N : Nat} {xs : Nat → Int32} {v w : Value} {st : List Value} {σ : l2_m} (hN : N ≤ 3584) (hi : i + j < N) (h1 : (pm_code 279)[pc]? = some (.aload 0, 1)) (h2 : (pm_code 279)[pc + 1]? = some (.iload 4, 2)) (h3 : (pm_code 279)[pc + 3]? = some (.iconst (j : Int), laS j)) (h4 : (pm_code 279)[pc + 3 + laS j]? = some (.iadd, 1)) (h5 : (pm_code 279)[pc + 4 + laS j]? = some (.iaload, 1)) (h : lW (lB N xs) t (pc + 5 + laS j) (lL i v w) (.int (xs (i + j)) :: st) σ) : lW (lB N xs) t pc (lL i v w) st σ := by
  refine l_go (pc' := pc + 1) h1 rfl rfl (by intro h; cases h) (fun M hM => rfl) ?_
  refine l_go (pc' := pc + 3) h2 rfl rfl (by intro h; cases h) (fun M hM => rfl) ?_
  refine l_go (pc' := pc + 3 + laS j) h3 rfl rfl (by intro h; cases h) (fun M hM => rfl) ?_
  refine l_go (pc' := pc + 4 + laS j) (st' := vi ((i : Int) + j) :: .ref 0 :: st) h4 rfl rfl (by intro h; cases h) (fun M hM => by
    simp only [pm_step, ← Int32.ofInt_add]
    rw [show pc + 3 + laS j + 1 = pc + 4 + laS j by omega]) ?_
  refine l_go (pc' := pc + 5 + laS j) h5 rfl rfl (by intro h; cases h) (fun M hM => ?_) h
  obtain ⟨r1, r2⟩ := rg_in (i := (i : Int) + j) (n := N) (by omega) (by omega) (by omega)
  simp only [pm_step, hp_0]
  rw [if_pos ⟨lt_of_eq_of_lt' hM (by decide), r1⟩, r2, show ((i : Int) + j).toNat = i + j by omega, show pc + 4 + laS j + 1 = pc + 5 + laS j by omega]
theorem l_args {t i N : Nat} {xs : Nat → Int32} {v w : Value} {σ : l2_m} (hN : N ≤ 3584) : ∀ (m pc j : Nat) (st : List Value), laOK pc j m = true → i + j + m ≤ N → lW (lB N xs) t (laE pc j m) (lL i v w) ((ags xs i j m).reverse ++ st) σ → lW (lB N xs) t pc (lL i v w) st σ
  | 0, _, _, _, _, _, h => h
  | m + 1, pc, j, st, hk, hi, h => by
    unfold laOK at hk
    simp only [Bool.and_eq_true] at hk
    obtain ⟨h1, h2, h3, h4, h5, h6⟩ := hk
    refine l_arg hN (by omega) (of_decide_eq_true h1) (of_decide_eq_true h2) (of_decide_eq_true h3) (of_decide_eq_true h4) (of_decide_eq_true h5) ?_
    refine l_args hN m (pc + 5 + laS j) (j + 1) _ h6 (by omega) ?_
    have e : (ags xs i j (m + 1)).reverse ++ st = (ags xs i (j + 1) m).reverse ++ (.int (xs (i + j)) :: st) := by
      show (Value.int (xs (i + j)) :: ags xs i (j + 1) m).reverse ++ st = _
      rw [List.reverse_cons, List.append_assoc]; rfl
    rw [← e]
    exact h
/-- a case of the law is as it should be -/
def lcOK (pc m a b : Nat) : Bool := decide ((pm_code 279)[pc]? = some (.aload 1, 1)) && (laOK (pc + 1) 1 m && (decide ((pm_code 279)[laE (pc + 1) 1 m]? = some (.invokevirtual a, 3)) && (decide ((pm_code 279)[laE (pc + 1) 1 m + 3]? = some (.aload 2, 1)) && (laOK (laE (pc + 1) 1 m + 4) 1 m && (decide ((pm_code 279)[laE (laE (pc + 1) 1 m + 4) 1 m]? = some (.invokevirtual b, 3)) && (decide ((pm_code 279)[laE (laE (pc + 1) 1 m + 4) 1 m + 3]? = some (.if_icmp .eq 1841, 3)) && decide (a < 142 ∨ (142 < a ∧ a < 1000)) && (decide (142 < b ∧ b < 1000) && (decide (pm_K a = 0 ∧ pm_K b = 0 ∧ pm_O a = 9 ∧ pm_O b = 10 ∧ m + 1 = pm_na a ∧ m + 1 = pm_na b) && ((pm_R a).isSome && (pm_R b).isSome)))))))))
theorem l_case {t pc m a b i N : Nat} {xs : Nat → Int32} {v w : Value} {σ : l2_m} (hN : N ≤ 3584) (hi : i + 1 + m ≤ N) (hk : lcOK pc m a b = true) (hP : PAIR comF (lB N xs) a b (ags xs i 1 m)) (hC : CI comF σ σ) (hR : RWF σ) (h : ∀ υ : l2_m, CI comF υ υ → RWF υ → lW (lB N xs) t 1841 (lL i v w) [] υ) : lW (lB N xs) t pc (lL i v w) [] σ := by
  unfold lcOK at hk
  simp only [Bool.and_eq_true] at hk
  obtain ⟨h1, h2, h3, h4, h5, h6, ⟨h7, h8⟩, h9, h10, h11, h12⟩ := hk
  have g8 := of_decide_eq_true h8
  have g9 := of_decide_eq_true h9
  obtain ⟨g1, g2, g3, g4, g5, g6⟩ := of_decide_eq_true h10
  obtain ⟨ta, eta⟩ := Option.isSome_iff_exists.mp h11
  obtain ⟨tb, etb⟩ := Option.isSome_iff_exists.mp h12
  refine l_go (pc' := pc + 1) (of_decide_eq_true h1) rfl rfl (by intro h; cases h) (fun M hM => rfl) ?_
  refine l_args hN m (pc + 1) 1 _ h2 (by omega) ?_
  refine l_call (as := ags xs i 1 m) (rest := []) (q := a) (a := 32) (c := 9) (of_decide_eq_true h3) (by show (if a < 1000 then some (a, true) else none) = some (a, true); rw [if_pos (by omega)]) g1 g3 eta (by omega) rfl (by rw [ags_len]; exact g5) rfl (ags_cat xs i 1 m) (by decide) ?_
  refine wC.mono (hP σ hC hR) (fun x τ hτ => ?_)
  refine l_go (pc' := laE (pc + 1) 1 m + 4) (of_decide_eq_true h4) rfl rfl (by intro h; cases h) (fun M hM => rfl) ?_
  refine l_args hN m _ 1 _ h5 (by omega) ?_
  refine l_call (as := ags xs i 1 m) (rest := [vi x]) (q := b) (a := 186) (c := 10) (of_decide_eq_true h6) (by show (if b < 1000 then some (b, true) else none) = some (b, true); rw [if_pos (by omega)]) g2 g4 etb (by omega) rfl (by rw [ags_len]; exact g6) rfl (ags_cat xs i 1 m) (Nat.le_of_ble_eq_true rfl) ?_
  refine wC.mono hτ (fun y υ hυ => ?_)
  obtain ⟨rfl, q1, q2⟩ := hυ
  refine l_go (pc' := 1841) (of_decide_eq_true h7) rfl rfl (by intro h; cases h) (fun M hM => ?_) (h υ q1 q2)
  have e : (Int32.ofInt x == Int32.ofInt x) = true := by simp
  exact (if_pos e).trans rfl
