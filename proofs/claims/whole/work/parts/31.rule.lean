/-! ===== rules over the memory of ints, an instruction a row ===== -/
def l2_rv (k : Nat) (x : Int) : Option Value := match pm_R k with
  | none => none
  | some _ => if k = 142 ∧ x < 0 then some .null else some (vi x)
/-- the machine comes to an end of this method with Q (of the answer, 0 for none, and the memory) -/
def wW (B : va_E) (k pc : Nat) (L st : List Value) (σ : l2_m) (Q : Int → l2_m → Prop) : Prop := ∀ M : pm_M, M.1 = 212 → pm_W k pc L st M (hp B σ) (fun r M' S' => M' = M ∧ ∃ x σ', r = l2_rv k x ∧ S' = hp B σ' ∧ Q x σ')
/-- a call -/
def wC (B : va_E) (k : Nat) (as : List Value) (σ : l2_m) (Q : Int → l2_m → Prop) : Prop := wW B k 0 (pm_ent k as) [] σ Q
theorem wW.mono {B : va_E} {k pc : Nat} {L st : List Value} {σ : l2_m} {Q Q' : Int → l2_m → Prop} (h : wW B k pc L st σ Q) (hq : ∀ x σ', Q x σ' → Q' x σ') : wW B k pc L st σ Q' := fun M hM => (h M hM).mono (fun _ _ _ h => ⟨h.1, by
  obtain ⟨x, σ', h1, h2, h3⟩ := h.2
  exact ⟨x, σ', h1, h2, hq _ _ h3⟩⟩)
theorem wC.mono {B : va_E} {k : Nat} {as : List Value} {σ : l2_m} {Q Q' : Int → l2_m → Prop} (h : wC B k as σ Q) (hq : ∀ x σ', Q x σ' → Q' x σ') : wC B k as σ Q' := wW.mono h hq
/-- the slot below isn't a long one -/
def l2_ok1 (L : List Value) (j : Nat) : Prop := match j with
  | 0 => True
  | i + 1 => ∀ v, L[i]? = some v → v.category = 1
theorem l2_st1 {L : List Value} {j : Nat} {v : Value} (h : l2_ok1 L j) : pm_st1 L j v = L.set j v := by
  unfold pm_st1 pm_kill
  cases j with
  | zero => rfl
  | succ i =>
    dsimp only
    cases hL : L[i]? with
    | none => rfl
    | some w =>
      have := h w hL
      dsimp only
      rw [if_neg (by rw [this]; decide)]
theorem lt_of_eq_of_lt' {m a : Nat} (h : m = 212) (h1 : a < 212) : a < m := by omega
section RULES
variable {B : va_E} {k pc n : Nat} {C : List (Instr × Nat)} {L L' st : List Value} {σ : l2_m} {Q : Int → l2_m → Prop}
theorem g_go {i : Instr} {st' : List Value} {σ' : l2_m} {pc' : Nat} (hk : pm_code k = C) (hc : C[pc]? = some (i, n)) (h1 : pm_call i = none) (h2 : pm_ret i st = none) (h3 : i ≠ .invokestatic 1007) (hs : ∀ M : pm_M, M.1 = 212 → pm_step i n pc L st M (hp B σ) = some (pc', L', st', M, hp B σ')) (h : wW B k pc' L' st' σ' Q) : wW B k pc L st σ Q := fun M hM => pm_go (by rw [hk]; exact hc) h1 h2 h3 (hs M hM) (h M hM)
theorem g_ic {v : Int} (p : Nat) (hk : pm_code k = C) (hc : C[pc]? = some (.iconst v, n)) (hp0 : pc + n = p)  (h : wW B k p L (vi v :: st) (σ) Q) : wW B k pc L (st) σ Q := by
  subst hp0
  exact g_go hk hc rfl rfl (by intro h; cases h) (fun M hM => by rfl) h
theorem g_lc {v : Fin 2} (p : Nat) (hk : pm_code k = C) (hc : C[pc]? = some (.lconst v, n)) (hp0 : pc + n = p)  (h : wW B k p L (vl (v.val : Int) :: st) (σ) Q) : wW B k pc L (st) σ Q := by
  subst hp0
  exact g_go hk hc rfl rfl (by intro h; cases h) (fun M hM => by 

    match v with
    | 0 => rfl
    | 1 => rfl) h
theorem g_il {j : Nat} {x : Int32} (p : Nat) (hk : pm_code k = C) (hc : C[pc]? = some (.iload j, n)) (hp0 : pc + n = p) (hj : L[j]? = some (.int x)) (h : wW B k p L (.int x :: st) (σ) Q) : wW B k pc L (st) σ Q := by
  subst hp0
  exact g_go hk hc rfl rfl (by intro h; cases h) (fun M hM => by simp only [pm_step, hj]) h
theorem g_ll {j : Nat} {x : Int64} (p : Nat) (hk : pm_code k = C) (hc : C[pc]? = some (.lload j, n)) (hp0 : pc + n = p) (hj : L[j]? = some (.long x)) (h : wW B k p L (.long x :: st) (σ) Q) : wW B k pc L (st) σ Q := by
  subst hp0
  exact g_go hk hc rfl rfl (by intro h; cases h) (fun M hM => by simp only [pm_step, hj]) h
theorem g_al {j : Nat} {x : Nat} (p : Nat) (hk : pm_code k = C) (hc : C[pc]? = some (.aload j, n)) (hp0 : pc + n = p) (hj : L[j]? = some (.ref x)) (h : wW B k p L (.ref x :: st) (σ) Q) : wW B k pc L (st) σ Q := by
  subst hp0
  exact g_go hk hc rfl rfl (by intro h; cases h) (fun M hM => by simp only [pm_step, hj]) h
theorem g_is {j : Nat} {x : Int32} (p : Nat) (hk : pm_code k = C) (hc : C[pc]? = some (.istore j, n)) (hp0 : pc + n = p) (hj : l2_ok1 L j) (hl : j < L.length) (hL : L.set j (.int x) = L') (h : wW B k p L' (st) (σ) Q) : wW B k pc L (.int x :: st) σ Q := by
  subst hp0
  exact g_go hk hc rfl rfl (by intro h; cases h) (fun M hM => by simp only [pm_step, if_pos hl, l2_st1 hj, hL]) h
theorem g_as {j : Nat} {x : Nat} (p : Nat) (hk : pm_code k = C) (hc : C[pc]? = some (.astore j, n)) (hp0 : pc + n = p) (hj : l2_ok1 L j) (hl : j < L.length) (hL : L.set j (.ref x) = L') (h : wW B k p L' (st) (σ) Q) : wW B k pc L (.ref x :: st) σ Q := by
  subst hp0
  exact g_go hk hc rfl rfl (by intro h; cases h) (fun M hM => by simp only [pm_step, if_pos hl, l2_st1 hj, hL]) h
theorem g_ls {j : Nat} {x : Int64} (p : Nat) (hk : pm_code k = C) (hc : C[pc]? = some (.lstore j, n)) (hp0 : pc + n = p) (hj : l2_ok1 L j) (hl : j + 1 < L.length) (hL : pm_st2 L j (.long x) = L') (h : wW B k p L' (st) (σ) Q) : wW B k pc L (.long x :: st) σ Q := by
  subst hp0
  exact g_go hk hc rfl rfl (by intro h; cases h) (fun M hM => by simp only [pm_step, if_pos hl, hL]) h
theorem g_ii {j : Nat} {d x : Int} (p : Nat) (hk : pm_code k = C) (hc : C[pc]? = some (.iinc j d, n)) (hp0 : pc + n = p) (hj : l2_ok1 L j) (hx : L[j]? = some (vi x)) (hL : L.set j (vi (x + d)) = L') (h : wW B k p L' (st) (σ) Q) : wW B k pc L (st) σ Q := by
  subst hp0
  exact g_go hk hc rfl rfl (by intro h; cases h) (fun M hM => by simp only [pm_step, hx, if_pos (List.getElem?_eq_some_iff.mp hx).1, l2_st1 hj, ← Int32.ofInt_add, hL]) h
theorem g_add {a b : Int} (p : Nat) (hk : pm_code k = C) (hc : C[pc]? = some (.iadd, n)) (hp0 : pc + n = p)  (h : wW B k p L (vi (a + b) :: st) (σ) Q) : wW B k pc L (vi b :: vi a :: st) σ Q := by
  subst hp0
  exact g_go hk hc rfl rfl (by intro h; cases h) (fun M hM => by simp only [pm_step, ← Int32.ofInt_add]) h
theorem g_sub {a b : Int} (p : Nat) (hk : pm_code k = C) (hc : C[pc]? = some (.isub, n)) (hp0 : pc + n = p)  (h : wW B k p L (vi (a - b) :: st) (σ) Q) : wW B k pc L (vi b :: vi a :: st) σ Q := by
  subst hp0
  exact g_go hk hc rfl rfl (by intro h; cases h) (fun M hM => by simp only [pm_step, ← Int32.ofInt_sub]) h
theorem g_mul {a b : Int} (p : Nat) (hk : pm_code k = C) (hc : C[pc]? = some (.imul, n)) (hp0 : pc + n = p)  (h : wW B k p L (vi (a * b) :: st) (σ) Q) : wW B k pc L (vi b :: vi a :: st) σ Q := by
  subst hp0
  exact g_go hk hc rfl rfl (by intro h; cases h) (fun M hM => by simp only [pm_step, ← Int32.ofInt_mul]) h
theorem g_neg {a : Int} (p : Nat) (hk : pm_code k = C) (hc : C[pc]? = some (.ineg, n)) (hp0 : pc + n = p)  (h : wW B k p L (vi (-a) :: st) (σ) Q) : wW B k pc L (vi a :: st) σ Q := by
  subst hp0
  exact g_go hk hc rfl rfl (by intro h; cases h) (fun M hM => by simp only [pm_step, ← Int32.ofInt_neg]) h
theorem g_div {a b : Int} (p : Nat) (hk : pm_code k = C) (hc : C[pc]? = some (.idiv, n)) (hp0 : pc + n = p) (ra : rg a) (rb : rg b) (ha : 0 ≤ a) (hb : 0 < b) (h : wW B k p L (vi (a / b) :: st) (σ) Q) : wW B k pc L (vi b :: vi a :: st) σ Q := by
  subst hp0
  exact g_go hk hc rfl rfl (by intro h; cases h) (fun M hM => by 
    have hz : ¬ Int32.ofInt b = 0 := fun h => by have := (rg_eq rb (y := 0) (by decide)).mp h; omega
    simp only [pm_step, if_neg hz, i_div ha hb ra rb]) h
theorem g_remt {a b : Int} (p : Nat) (hk : pm_code k = C) (hc : C[pc]? = some (.irem, n)) (hp0 : pc + n = p) (ra : rg a) (rb : rg b) (hb : 0 < b) (h : wW B k p L (vi (a.tmod b) :: st) (σ) Q) : wW B k pc L (vi b :: vi a :: st) σ Q := by
  subst hp0
  exact g_go hk hc rfl rfl (by intro h; cases h) (fun M hM => by 
    have hz : ¬ Int32.ofInt b = 0 := fun h => by have := (rg_eq rb (y := 0) (by decide)).mp h; omega
    simp only [pm_step, if_neg hz, i_rem ra rb]) h
theorem g_rem {a b : Int} (p : Nat) (hk : pm_code k = C) (hc : C[pc]? = some (.irem, n)) (hp0 : pc + n = p) (ra : rg a) (rb : rg b) (ha : 0 ≤ a) (hb : 0 < b) (h : wW B k p L (vi (a % b) :: st) (σ) Q) : wW B k pc L (vi b :: vi a :: st) σ Q := by
  subst hp0
  exact g_go hk hc rfl rfl (by intro h; cases h) (fun M hM => by 
    have hz : ¬ Int32.ofInt b = 0 := fun h => by have := (rg_eq rb (y := 0) (by decide)).mp h; omega
    simp only [pm_step, if_neg hz, i_rem ra rb, Int.tmod_eq_emod_of_nonneg ha]) h
theorem g_shl {a s : Int} (p : Nat) (hk : pm_code k = C) (hc : C[pc]? = some (.ishl, n)) (hp0 : pc + n = p) (h0 : 0 ≤ s) (h1 : s < 32) (h : wW B k p L (vi (a * 2 ^ s.toNat) :: st) (σ) Q) : wW B k pc L (vi s :: vi a :: st) σ Q := by
  subst hp0
  exact g_go hk hc rfl rfl (by intro h; cases h) (fun M hM => by simp only [pm_step, i_shl h0 h1]) h
theorem g_shlk {a : Int} (w : Int) (s : Nat) (p : Nat) (hk : pm_code k = C) (hc : C[pc]? = some (.ishl, n)) (hp0 : pc + n = p) (h1 : s < 32) (hw : 2 ^ s = w) (h : wW B k p L (vi (a * w) :: st) (σ) Q) : wW B k pc L (vi (s : Int) :: vi a :: st) σ Q := by
  subst hp0
  exact g_go hk hc rfl rfl (by intro h; cases h) (fun M hM => by rw [← hw]; simp only [pm_step, i_shl (Int.natCast_nonneg s) (Int.ofNat_lt.mpr h1), Int.toNat_natCast]) h
theorem g_shr {a s : Int} (p : Nat) (hk : pm_code k = C) (hc : C[pc]? = some (.ishr, n)) (hp0 : pc + n = p) (ra : rg a) (h0 : 0 ≤ s) (h1 : s < 32) (h : wW B k p L (vi (a / 2 ^ s.toNat) :: st) (σ) Q) : wW B k pc L (vi s :: vi a :: st) σ Q := by
  subst hp0
  exact g_go hk hc rfl rfl (by intro h; cases h) (fun M hM => by simp only [pm_step, i_shr ra h0 h1]) h
theorem g_shrk {a : Int} (w : Int) (s : Nat) (p : Nat) (hk : pm_code k = C) (hc : C[pc]? = some (.ishr, n)) (hp0 : pc + n = p) (ra : rg a) (h1 : s < 32) (hw : 2 ^ s = w) (h : wW B k p L (vi (a / w) :: st) (σ) Q) : wW B k pc L (vi (s : Int) :: vi a :: st) σ Q := by
  subst hp0
  exact g_go hk hc rfl rfl (by intro h; cases h) (fun M hM => by rw [← hw]; simp only [pm_step, i_shr ra (Int.natCast_nonneg s) (Int.ofNat_lt.mpr h1), Int.toNat_natCast]) h
theorem g_andk {a b : Int} (w j : Nat) (p : Nat) (hk : pm_code k = C) (hc : C[pc]? = some (.iand, n)) (hp0 : pc + n = p) (hb : b = (w : Int) - 1) (hw : 2 ^ j = w) (hj : j < 32) (h : wW B k p L (vi (a % (w : Int)) :: st) (σ) Q) : wW B k pc L (vi b :: vi a :: st) σ Q := by
  subst hp0
  exact g_go hk hc rfl rfl (by intro h; cases h) (fun M hM => by rw [hb]; simp only [pm_step, i_and hw hj]) h
theorem g_and {a b : Int} (p : Nat) (hk : pm_code k = C) (hc : C[pc]? = some (.iand, n)) (hp0 : pc + n = p) (h1 : 0 ≤ a) (h2 : 0 ≤ b) (h3 : a < 2147483648) (h4 : b < 2147483648) (h : wW B k p L (vi ((a.toNat &&& b.toNat : Nat) : Int) :: st) (σ) Q) : wW B k pc L (vi b :: vi a :: st) σ Q := by
  subst hp0
  exact g_go hk hc rfl rfl (by intro h; cases h) (fun M hM => by simp only [pm_step, i_andn h1 h2 h3 h4]) h
theorem g_or {a b : Int} (p : Nat) (hk : pm_code k = C) (hc : C[pc]? = some (.ior, n)) (hp0 : pc + n = p) (h1 : 0 ≤ a) (h2 : 0 ≤ b) (h3 : a < 2147483648) (h4 : b < 2147483648) (h : wW B k p L (vi ((a.toNat ||| b.toNat : Nat) : Int) :: st) (σ) Q) : wW B k pc L (vi b :: vi a :: st) σ Q := by
  subst hp0
  exact g_go hk hc rfl rfl (by intro h; cases h) (fun M hM => by simp only [pm_step, i_orn h1 h2 h3 h4]) h
theorem g_dup {a : Value} (p : Nat) (hk : pm_code k = C) (hc : C[pc]? = some (.dup, n)) (hp0 : pc + n = p) (ha : a.category = 1) (h : wW B k p L (a :: a :: st) (σ) Q) : wW B k pc L (a :: st) σ Q := by
  subst hp0
  exact g_go hk hc rfl rfl (by intro h; cases h) (fun M hM => by simp only [pm_step, if_pos ha]) h
theorem g_dup2 {a b : Value} (p : Nat) (hk : pm_code k = C) (hc : C[pc]? = some (.dup2, n)) (hp0 : pc + n = p) (ha : a.category = 1) (hb : b.category = 1) (h : wW B k p L (a :: b :: a :: b :: st) (σ) Q) : wW B k pc L (a :: b :: st) σ Q := by
  subst hp0
  exact g_go hk hc rfl rfl (by intro h; cases h) (fun M hM => by simp only [pm_step, if_pos (And.intro ha hb)]) h
theorem g_pop {a : Value} (p : Nat) (hk : pm_code k = C) (hc : C[pc]? = some (.pop, n)) (hp0 : pc + n = p) (ha : a.category = 1) (h : wW B k p L (st) (σ) Q) : wW B k pc L (a :: st) σ Q := by
  subst hp0
  exact g_go hk hc rfl rfl (by intro h; cases h) (fun M hM => by simp only [pm_step, if_pos ha]) h
theorem g_goto {t : Int} (p : Nat) (hk : pm_code k = C) (hc : C[pc]? = some (.goto t, n)) (hp0 : t.toNat = p) (h : wW B k p L st σ Q) : wW B k pc L st σ Q := by
  subst hp0
  exact g_go hk hc rfl rfl (by intro h; cases h) (fun M hM => rfl) h
def l2_cp (c : Jvm.ClassFile.Cond) (a b : Int) : Prop := match c with
  | .eq => a = b
  | .ne => ¬ a = b
  | .lt => a < b
  | .ge => b ≤ a
  | .gt => b < a
  | .le => a ≤ b
theorem l2_cmp {c : Jvm.ClassFile.Cond} {a b : Int} (ra : rg a) (rb : rg b) : pm_cmp c (Int32.ofInt a) (Int32.ofInt b) = true ↔ l2_cp c a b := by
  cases c <;> simp only [pm_cmp, l2_cp, beq_iff_eq, Bool.not_eq_true', decide_eq_true_eq, rg_lt ra rb, rg_le ra rb, rg_lt rb ra, rg_le rb ra, rg_eq ra rb]
  rw [← Bool.not_eq_true, beq_iff_eq, rg_eq ra rb]
theorem g_if {c : Jvm.ClassFile.Cond} {t : Int} {a : Int} (p p' : Nat) (hk : pm_code k = C) (hc : C[pc]? = some (.ifCond c t, n)) (hp0 : pc + n = p) (hp1 : t.toNat = p') (ra : rg a) (h : l2_cp c a 0 → wW B k p' L st σ Q) (h' : ¬ l2_cp c a 0 → wW B k p L st σ Q) : wW B k pc L (vi a :: st) σ Q := by
  subst hp0; subst hp1
  by_cases hh : l2_cp c a 0
  · have e := (l2_cmp ra (b := 0) (by decide)).mpr hh
    exact g_go hk hc rfl rfl (by intro h; cases h) (fun M hM => by simp only [pm_step]; rw [if_pos (by exact e)]) (h hh)
  · have e := fun z => hh ((l2_cmp ra (b := 0) (by decide)).mp z)
    exact g_go hk hc rfl rfl (by intro h; cases h) (fun M hM => by simp only [pm_step]; rw [if_neg (by exact e)]) (h' hh)
theorem g_ii2 {c : Jvm.ClassFile.Cond} {t : Int} {a b : Int} (p p' : Nat) (hk : pm_code k = C) (hc : C[pc]? = some (.if_icmp c t, n)) (hp0 : pc + n = p) (hp1 : t.toNat = p') (ra : rg a) (rb : rg b) (h : l2_cp c a b → wW B k p' L st σ Q) (h' : ¬ l2_cp c a b → wW B k p L st σ Q) : wW B k pc L (vi b :: vi a :: st) σ Q := by
  subst hp0; subst hp1
  by_cases hh : l2_cp c a b
  · have e := (l2_cmp ra rb).mpr hh
    exact g_go hk hc rfl rfl (by intro h; cases h) (fun M hM => by simp only [pm_step]; rw [if_pos (by exact e)]) (h hh)
  · have e := fun z => hh ((l2_cmp ra rb).mp z)
    exact g_go hk hc rfl rfl (by intro h; cases h) (fun M hM => by simp only [pm_step]; rw [if_neg (by exact e)]) (h' hh)
theorem g_ia2 {t : Int} {a b n1 n2 : Nat} (p p' : Nat) (hk : pm_code k = C) (hc : C[pc]? = some (.if_acmp .eq t, n)) (hp0 : pc + n = p) (hp1 : t.toNat = p') (ra : l2_al a = some n1) (rb : l2_al b = some n2) (h : a = b → wW B k p' L st σ Q) (h' : ¬ a = b → wW B k p L st σ Q) : wW B k pc L (.ref b :: .ref a :: st) σ Q := by
  subst hp0; subst hp1
  obtain ⟨-, a1, a2⟩ := hp_arr (B := B) (σ := σ) ra
  obtain ⟨-, b1, b2⟩ := hp_arr (B := B) (σ := σ) rb
  by_cases hh : a = b
  · exact g_go hk hc rfl rfl (by intro h; cases h) (fun M hM => by simp only [pm_step]; rw [if_pos ⟨a1, b1, lt_of_eq_of_lt' hM a2, lt_of_eq_of_lt' hM b2⟩, if_pos hh]) (h hh)
  · exact g_go hk hc rfl rfl (by intro h; cases h) (fun M hM => by simp only [pm_step]; rw [if_pos ⟨a1, b1, lt_of_eq_of_lt' hM a2, lt_of_eq_of_lt' hM b2⟩, if_neg hh]) (h' hh)
/-- where a switch goes -/
def l2_sw (pc : Nat) (d lo hi : Int) (offs : Array Int) (x : Int) : Option Nat := if x < lo ∨ hi < x then (if 0 ≤ (pc : Int) + d then some ((pc : Int) + d).toNat else none) else match offs[(x - lo).toNat]? with
  | some o => if 0 ≤ (pc : Int) + o then some ((pc : Int) + o).toNat else none
  | none => none
theorem g_sw {d lo hi : Int} {offs : Array Int} {x : Int} (p : Nat) (hk : pm_code k = C) (hc : C[pc]? = some (.tableswitch d lo hi offs, n)) (rx : rg x) (hs : l2_sw pc d lo hi offs x = some p) (h : wW B k p L st σ Q) : wW B k pc L (vi x :: st) σ Q := by
  refine g_go hk hc rfl rfl (by intro h; cases h) (fun M hM => ?_) h
  simp only [pm_step]
  rw [rg_to rx]
  unfold l2_sw at hs
  split at hs
  · rename_i h1
    rw [if_pos h1]
    split at hs
    · rename_i h2
      rw [if_pos h2]
      cases hs; rfl
    · cases hs
  · rename_i h1
    rw [if_neg h1]
    split at hs
    · rename_i o he
      rw [he]
      dsimp only
      split at hs
      · rename_i h2
        rw [if_pos h2]
        cases hs; rfl
      · cases hs
    · cases hs
theorem g_lsw {d : Int} {ps : Array (Int × Int)} {x : Int} (p : Nat) (hk : pm_code k = C) (hc : C[pc]? = some (.lookupswitch d ps, n)) (rx : rg x) (h1 : (ps.toList.zip (ps.toList.drop 1)).all (fun (a, next) => a.1 < next.1) = true) (h2 : 0 ≤ (pc : Int) + Op.lookupswitch.offset ps.toList d x) (hs : ((pc : Int) + Op.lookupswitch.offset ps.toList d x).toNat = p) (h : wW B k p L st σ Q) : wW B k pc L (vi x :: st) σ Q := by
  subst hs
  refine g_go hk hc rfl rfl (by intro h; cases h) (fun M hM => ?_) h
  simp only [pm_step]
  rw [rg_to rx, if_pos ⟨h1, h2⟩]
theorem g_gf {a q : Nat} (p : Nat) (hk : pm_code k = C) (hc : C[pc]? = some (.getfield q, n)) (hp0 : pc + n = p) (c : Nat) (hf : l2_fk a q = some c) (v : Value) (hv : l2_fv σ a (q % 64) c = v) (h : wW B k p L (v :: st) σ Q) : wW B k pc L (.ref a :: st) σ Q := by
  subst hp0; subst hv
  obtain ⟨fs, e1, e2, e3, e4, e5, e6⟩ := hp_fld (B := B) (σ := σ) hf
  refine g_go hk hc rfl rfl (by intro h; cases h) (fun M hM => ?_) h
  simp only [pm_step, e1]
  rw [if_pos ⟨e3, lt_of_eq_of_lt' hM e4, trivial, e5⟩, e2]
theorem g_pfi {a q : Nat} {x : Int} (p : Nat) (hk : pm_code k = C) (hc : C[pc]? = some (.putfield q, n)) (hp0 : pc + n = p) (hf : l2_fk a q = some 0) (j : Int) (hj : j = (q % 64 : Nat)) (ht : pm_ty (q / 64) (q % 64) = .int) (h : wW B k p L st (l2_u σ a j x) Q) : wW B k pc L (vi x :: .ref a :: st) σ Q := by
  subst hp0
  obtain ⟨fs, e1, e2, e3, e4, e5, e6⟩ := hp_fld (B := B) (σ := σ) hf
  refine g_go hk hc rfl rfl (by intro h; cases h) (fun M hM => ?_) h
  simp only [pm_step, e1]
  rw [if_pos ⟨e3, lt_of_eq_of_lt' hM e4, trivial, e5, e6, by rw [ht]; rfl⟩, hp_put (v := vi x) (x := x) hf (by decide) hj e1 rfl]
theorem g_pfb {a q : Nat} {x : Int} (p : Nat) (hk : pm_code k = C) (hc : C[pc]? = some (.putfield q, n)) (hp0 : pc + n = p) (hf : l2_fk a q = some 0) (j : Int) (hj : j = (q % 64 : Nat)) (hx : x = 0 ∨ x = 1) (h : wW B k p L st (l2_u σ a j x) Q) : wW B k pc L (vi x :: .ref a :: st) σ Q := by
  subst hp0
  obtain ⟨fs, e1, e2, e3, e4, e5, e6⟩ := hp_fld (B := B) (σ := σ) hf
  refine g_go hk hc rfl rfl (by intro h; cases h) (fun M hM => ?_) h
  simp only [pm_step, e1]
  rw [if_pos ⟨e3, lt_of_eq_of_lt' hM e4, trivial, e5, e6, by
    rcases (l2_fty hf).1 rfl with ht | ht <;> rw [ht] <;> rcases hx with rfl | rfl <;> rfl⟩, hp_put (v := vi x) (x := x) hf (by decide) hj e1 rfl]
theorem g_pfl {a q : Nat} {x : Int} (p : Nat) (hk : pm_code k = C) (hc : C[pc]? = some (.putfield q, n)) (hp0 : pc + n = p) (hf : l2_fk a q = some 1) (j : Int) (hj : j = (q % 64 : Nat)) (h : wW B k p L st (l2_u σ a j x) Q) : wW B k pc L (vl x :: .ref a :: st) σ Q := by
  subst hp0
  obtain ⟨fs, e1, e2, e3, e4, e5, e6⟩ := hp_fld (B := B) (σ := σ) hf
  refine g_go hk hc rfl rfl (by intro h; cases h) (fun M hM => ?_) h
  simp only [pm_step, e1]
  rw [if_pos ⟨e3, lt_of_eq_of_lt' hM e4, trivial, e5, e6, by rw [(l2_fty hf).2.1 rfl]; rfl⟩, hp_put (v := vl x) (x := x) hf (by decide) hj e1 rfl]
theorem g_pfr {a b q : Nat} (p : Nat) (hk : pm_code k = C) (hc : C[pc]? = some (.putfield q, n)) (hp0 : pc + n = p) (hf : l2_fk a q = some 2) (j : Int) (hj : j = (q % 64 : Nat)) (h : wW B k p L st (l2_u σ a j (b : Int)) Q) : wW B k pc L (.ref b :: .ref a :: st) σ Q := by
  subst hp0
  obtain ⟨fs, e1, e2, e3, e4, e5, e6⟩ := hp_fld (B := B) (σ := σ) hf
  refine g_go hk hc rfl rfl (by intro h; cases h) (fun M hM => ?_) h
  simp only [pm_step, e1]
  rw [if_pos ⟨e3, lt_of_eq_of_lt' hM e4, trivial, e5, e6, (l2_fty hf).2.2 (by decide) b⟩, hp_put (v := .ref b) (x := (b : Int)) hf (by decide) hj e1 rfl]
theorem g_gs {q : Nat} (p : Nat) (hk : pm_code k = C) (hc : C[pc]? = some (.getstatic q, n)) (hp0 : pc + n = p)  (h : wW B k p L (.ref q :: st) (σ) Q) : wW B k pc L (st) σ Q := by
  subst hp0
  exact g_go hk hc rfl rfl (by intro h; cases h) (fun M hM => by rfl) h
theorem g_ldc {q : Nat} (p : Nat) (hk : pm_code k = C) (hc : C[pc]? = some (.ldc q, n)) (hp0 : pc + n = p)  (h : wW B k p L (.ref q :: st) (σ) Q) : wW B k pc L (st) σ Q := by
  subst hp0
  exact g_go hk hc rfl rfl (by intro h; cases h) (fun M hM => by rfl) h
theorem g_len {a m : Nat} (p : Nat) (hk : pm_code k = C) (hc : C[pc]? = some (.arraylength, n)) (hp0 : pc + n = p) (ha : l2_al a = some m) (h : wW B k p L (vi (m : Int) :: st) σ Q) : wW B k pc L (.ref a :: st) σ Q := by
  subst hp0
  obtain ⟨e1, e2, e3⟩ := hp_arr (B := B) (σ := σ) ha
  refine g_go hk hc rfl rfl (by intro h; cases h) (fun M hM => ?_) h
  simp only [pm_step, e1]
  rw [if_pos ⟨lt_of_eq_of_lt' hM e3, by decide⟩]; exact congrArg (fun z => some (pc + n, L, Value.int z :: st, M, hp B σ)) (Int32.ofInt_eq_ofNat).symm
theorem g_lenP (p : Nat) {a : Nat} {b m : Nat} (hk : pm_code k = C) (hc : C[pc]? = some (.arraylength, n)) (hp0 : pc + n = p) (ha : l2_pb a = some (b, m)) (h : wW B k p L (vi (m : Int) :: st) σ Q) : wW B k pc L (.ref a :: st) σ Q := by
  subst hp0
  refine g_go hk hc rfl rfl (by intro h; cases h) (fun M hM => ?_) h
  unfold l2_pb at ha
  split at ha
  · rename_i e; subst e; cases ha; simp only [pm_step]; show (if 54 < M.1 ∧ (3 : Nat) < 4 then _ else _) = _; rw [if_pos ⟨by omega, by decide⟩]; rfl
  · split at ha
    · rename_i e; subst e; cases ha; simp only [pm_step]; show (if 75 < M.1 ∧ (3 : Nat) < 4 then _ else _) = _; rw [if_pos ⟨by omega, by decide⟩]; rfl
    · split at ha
      · rename_i e; subst e; cases ha; simp only [pm_step]; show (if 133 < M.1 ∧ (3 : Nat) < 4 then _ else _) = _; rw [if_pos ⟨by omega, by decide⟩]; rfl
      · split at ha
        · rename_i e; subst e; cases ha; simp only [pm_step]; show (if 158 < M.1 ∧ (3 : Nat) < 4 then _ else _) = _; rw [if_pos ⟨by omega, by decide⟩]; rfl
        · cases ha
theorem g_lens (p : Nat) {a : Nat} (hk : pm_code k = C) (hc : C[pc]? = some (.arraylength, n)) (hp0 : pc + n = p) (ha : a = 1 ∨ a = 2) (h : wW B k p L (vi 25 :: st) σ Q) : wW B k pc L (.ref a :: st) σ Q := by
  subst hp0
  refine g_go hk hc rfl rfl (by intro h; cases h) (fun M hM => ?_) h
  rcases ha with rfl | rfl
  · simp only [pm_step]
    show (if 1 < M.1 ∧ 0 < 4 then _ else _) = _
    rw [if_pos ⟨by omega, by decide⟩]; rfl
  · simp only [pm_step]
    show (if 2 < M.1 ∧ 0 < 4 then _ else _) = _
    rw [if_pos ⟨by omega, by decide⟩]; rfl
theorem g_ial {a m : Nat} {i : Int} (p : Nat) (hk : pm_code k = C) (hc : C[pc]? = some (.iaload, n)) (hp0 : pc + n = p) (ha : l2_al a = some m) (h0 : 0 ≤ i) (h1 : i < (m : Int)) (h : wW B k p L (vi (σ a i) :: st) σ Q) : wW B k pc L (vi i :: .ref a :: st) σ Q := by
  subst hp0
  obtain ⟨e1, e2, e3⟩ := hp_arr (B := B) (σ := σ) ha
  have hr := rg_in h0 h1 (l2_small ha)
  refine g_go hk hc rfl rfl (by intro h; cases h) (fun M hM => ?_) h
  simp only [pm_step, e1]
  rw [if_pos ⟨lt_of_eq_of_lt' hM e3, hr.1⟩, hr.2, Int.toNat_of_nonneg h0]
def l2_PR (a : Nat) (i : Int) : Int := (if a = 1 then [2, 3, 5, 7, 11, 13, 17, 19, 23, 29, 31, 37, 41, 43, 47, 53, 59, 61, 67, 71, 73, 79, 83, 89, 97] else [17, 4, 32, 60, 18, 32, 20, 34, 27, 44, 38, 52, 48, 52, 55, 58, 62, 68, 77, 74, 78, 83, 104, 104, 104] : List Int).getD i.toNat 0
theorem g_ials {a : Nat} {i : Int} (p : Nat) (hk : pm_code k = C) (hc : C[pc]? = some (.iaload, n)) (hp0 : pc + n = p) (ha : a = 1 ∨ a = 2) (h0 : 0 ≤ i) (h1 : i < 25) (h : wW B k p L (vi (l2_PR a i) :: st) σ Q) : wW B k pc L (vi i :: .ref a :: st) σ Q := by
  subst hp0
  have hr := rg_in (n := 25) h0 h1 (by decide)
  refine g_go hk hc rfl rfl (by intro h; cases h) (fun M hM => ?_) h
  obtain ⟨j, rfl⟩ := Int.eq_ofNat_of_zero_le h0
  rw [Int.toNat_natCast] at hr
  have hj : j < 25 := by omega
  rcases ha with rfl | rfl
  · simp only [pm_step]
    show (if 1 < M.1 ∧ ¬ (Int32.ofInt (j : Int) < 0 ∨ 25 ≤ (Int32.ofInt (j : Int)).toNatClampNeg) then some (pc + n, L, Value.int (pm_pr9.getD (Int32.ofInt (j : Int)).toNatClampNeg 0) :: st, M, hp B σ) else none) = _
    rw [if_pos ⟨by omega, hr.1⟩, hr.2]
    have : ∀ j, j < 25 → pm_pr9.getD j 0 = Int32.ofInt (l2_PR 1 j) := by decide +kernel
    rw [this j hj]
  · simp only [pm_step]
    show (if 2 < M.1 ∧ ¬ (Int32.ofInt (j : Int) < 0 ∨ 25 ≤ (Int32.ofInt (j : Int)).toNatClampNeg) then some (pc + n, L, Value.int (pm_tl9.getD (Int32.ofInt (j : Int)).toNatClampNeg 0) :: st, M, hp B σ) else none) = _
    rw [if_pos ⟨by omega, hr.1⟩, hr.2]
    have : ∀ j, j < 25 → pm_tl9.getD j 0 = Int32.ofInt (l2_PR 2 j) := by decide +kernel
    rw [this j hj]
theorem g_ias {a m : Nat} {i x : Int} (p : Nat) (hk : pm_code k = C) (hc : C[pc]? = some (.iastore, n)) (hp0 : pc + n = p) (ha : l2_al a = some m) (h0 : 0 ≤ i) (h1 : i < (m : Int)) (h : wW B k p L st (l2_u σ a i x) Q) : wW B k pc L (vi x :: vi i :: .ref a :: st) σ Q := by
  subst hp0
  obtain ⟨e1, e2, e3⟩ := hp_arr (B := B) (σ := σ) ha
  have hr := rg_in h0 h1 (l2_small ha)
  refine g_go hk hc rfl rfl (by intro h; cases h) (fun M hM => ?_) h
  simp only [pm_step, e1]
  rw [if_pos ⟨e2, lt_of_eq_of_lt' hM e3, hr.1⟩, hr.2, hp_ast ha (τ := l2_u σ a i x) (fun b j hb => l2_u_ne hb) (fun j => ?_)]
  unfold upd l2_u
  by_cases hj : j = i.toNat
  · rw [if_pos hj, if_pos ⟨rfl, by omega⟩]
  · rw [if_neg hj, if_neg (by rintro ⟨-, h⟩; omega)]
theorem l2_pbs : ∀ a, a < 212 → ∀ q, l2_pb a = some q → ∃ fs, l2_tab[a - 32]? = some (3, q.2, fs) ∧ (∀ j, j < q.2 → fs[j]? = some (q.1 + 3 * j) ∧ l2_cl (q.1 + 3 * j) = some 7) ∧ 32 ≤ a := by
  intro a ha q hq
  unfold l2_pb at hq
  split at hq
  · rename_i e; subst e; cases hq; exact ⟨_, rfl, by decide +kernel, by decide⟩
  · split at hq
    · rename_i e; subst e; cases hq; exact ⟨_, rfl, by decide +kernel, by decide⟩
    · split at hq
      · rename_i e; subst e; cases hq; exact ⟨_, rfl, by decide +kernel, by decide⟩
      · split at hq
        · rename_i e; subst e; cases hq; exact ⟨_, rfl, by decide +kernel, by decide⟩
        · cases hq
theorem l2_pbl {a : Nat} {q : Nat × Nat} (h : l2_pb a = some q) : a < 212 := by
  unfold l2_pb at h
  split at h
  · omega
  · split at h
    · omega
    · split at h
      · omega
      · split at h
        · omega
        · cases h
/-- a polynomial of a row -/
theorem l2_pbc {a b m : Nat} {i : Int} (h : l2_pb a = some (b, m)) (h0 : 0 ≤ i) (h1 : i < (m : Int)) : l2_cl (b + 3 * i.toNat) = some 7 := by
  obtain ⟨fs, -, e, -⟩ := l2_pbs a (l2_pbl h) _ h
  exact (e i.toNat (by dsimp only; omega)).2
theorem g_aal {a b m : Nat} {i : Int} (p : Nat) (hk : pm_code k = C) (hc : C[pc]? = some (.aaload, n)) (hp0 : pc + n = p) (ha : l2_pb a = some (b, m)) (h0 : 0 ≤ i) (h1 : i < (m : Int)) (h : wW B k p L (.ref (b + 3 * i.toNat) :: st) σ Q) : wW B k pc L (vi i :: .ref a :: st) σ Q := by
  subst hp0
  have hlt := l2_pbl ha
  obtain ⟨fs, e1, e2, e3⟩ := l2_pbs a hlt _ ha
  have hm : m ≤ 8 := by
    unfold l2_pb at ha
    split at ha
    · cases ha; decide
    · split at ha
      · cases ha; decide
      · split at ha
        · cases ha; decide
        · split at ha
          · cases ha; decide
          · cases ha
  have hr := rg_in h0 h1 (by omega)
  have e4 := (e2 i.toNat (by dsimp only; omega)).1
  have e5 : hp B σ a = .inl (3, m, .inr (.inr (.inr (.inr (fun j => fs[j]?))))) := by
    rw [hp_at e1 e3]; rfl
  refine g_go hk hc rfl rfl (by intro h; cases h) (fun M hM => ?_) h
  simp only [pm_step, e5]
  rw [if_pos ⟨e3, lt_of_eq_of_lt' hM hlt, hr.1⟩, hr.2, e4]
  rfl
theorem g_bal {i : Int} (p : Nat) (hk : pm_code k = C) (hc : C[pc]? = some (.baload, n)) (hp0 : pc + n = p) (h0 : 0 ≤ i) (h1 : i < 700) (h : wW B k p L (vi (σ 189 i) :: st) σ Q) : wW B k pc L (vi i :: .ref 189 :: st) σ Q := by
  subst hp0
  have hr := rg_in (n := 700) h0 h1 (by decide)
  have e1 : hp B σ 189 = .inl (1, 700, .inl (fun j => Int32.ofInt (σ 189 j))) := rfl
  refine g_go hk hc rfl rfl (by intro h; cases h) (fun M hM => ?_) h
  simp only [pm_step, e1]
  rw [if_pos ⟨by decide, lt_of_eq_of_lt' hM (a := 189) (by decide), hr.1⟩, hr.2, Int.toNat_of_nonneg h0]
/-- an array is laid over another -/
def l2_cpy (σ : l2_m) (a : Nat) (sp : Int) (d : Nat) (dp m : Int) : l2_m := fun b j => if b = d ∧ dp ≤ j ∧ j < dp + m then σ a (sp + (j - dp)) else σ b j
theorem g_acp {a d n0 n1 : Nat} {sp dp m : Int} (p : Nat) (hk : pm_code k = C) (hc : C[pc]? = some (.invokestatic 1003, n)) (hp0 : pc + n = p) (ha : l2_al a = some n0) (hd : l2_al d = some n1) (h1 : 0 ≤ sp) (h2 : 0 ≤ dp) (h3 : 0 ≤ m) (h4 : sp + m ≤ (n0 : Int)) (h5 : dp + m ≤ (n1 : Int)) (hst : (st.map fun v => v.category).sum ≤ 8) (h : wW B k p L st (l2_cpy σ a sp d dp m) Q) : wW B k pc L (vi m :: vi dp :: .ref d :: vi sp :: .ref a :: st) σ Q := by
  subst hp0
  obtain ⟨e1, e2, e3⟩ := hp_arr (B := B) (σ := σ) ha
  obtain ⟨d1, d2, d3⟩ := hp_arr (B := B) (σ := σ) hd
  have s1 := l2_small ha
  have s2 := l2_small hd
  have r1 : rg sp := ⟨by omega, by omega⟩
  have r2 : rg dp := ⟨by omega, by omega⟩
  have r3 : rg m := ⟨by omega, by omega⟩
  have z1 : ¬ Int32.ofInt sp < 0 := fun z => by have := (rg_lt r1 (y := 0) (by decide)).mp z; omega
  have z2 : ¬ Int32.ofInt dp < 0 := fun z => by have := (rg_lt r2 (y := 0) (by decide)).mp z; omega
  have z3 : ¬ Int32.ofInt m < 0 := fun z => by have := (rg_lt r3 (y := 0) (by decide)).mp z; omega
  refine g_go hk hc rfl rfl (by intro h; cases h) (fun M hM => ?_) h
  have y1 : (Int32.ofInt sp).toNatClampNeg + (Int32.ofInt m).toNatClampNeg ≤ n0 := by rw [rg_nat r1, rg_nat r3]; omega
  have y2 : (Int32.ofInt dp).toNatClampNeg + (Int32.ofInt m).toNatClampNeg ≤ n1 := by rw [rg_nat r2, rg_nat r3]; omega
  simp only [pm_step, e1, d1]
  rw [if_neg (by decide), if_neg (by decide), if_pos trivial, if_pos ⟨e2, lt_of_eq_of_lt' hM e3, d2, lt_of_eq_of_lt' hM d3, z1, z2, z3, y1, y2, hst⟩, rg_nat r1, rg_nat r2, rg_nat r3, hp_ast hd (τ := l2_cpy σ a sp d dp m) (fun b j hb => by unfold l2_cpy; rw [if_neg (fun z => hb z.1)]) (fun j => ?_)]
  unfold va_cpy l2_cpy
  by_cases hj : dp.toNat ≤ j ∧ j < dp.toNat + m.toNat
  · rw [if_pos hj, if_pos ⟨rfl, by omega, by omega⟩]
    refine congrArg Int32.ofInt (congrArg (σ a) ?_)
    omega
  · rw [if_neg hj, if_neg (by rintro ⟨-, z⟩; omega)]
theorem g_max {a b : Int} (p : Nat) (hk : pm_code k = C) (hc : C[pc]? = some (.invokestatic 1001, n)) (hp0 : pc + n = p) (ra : rg a) (rb : rg b) (hst : (st.map fun v => v.category).sum ≤ 8) (h : wW B k p L (vi (max a b) :: st) σ Q) : wW B k pc L (vi b :: vi a :: st) σ Q := by
  subst hp0
  refine g_go hk hc rfl rfl (by intro h; cases h) (fun M hM => ?_) h
  simp only [pm_step]
  rw [if_pos trivial, if_pos hst]
  have : (if Int32.ofInt a < Int32.ofInt b then Int32.ofInt b else Int32.ofInt a) = Int32.ofInt (max a b) := by
    by_cases hh : a < b
    · rw [if_pos ((rg_lt ra rb).mpr hh)]; congr 1; omega
    · rw [if_neg (fun z => hh ((rg_lt ra rb).mp z))]; congr 1; omega
  rw [this]
theorem g_min {a b : Int} (p : Nat) (hk : pm_code k = C) (hc : C[pc]? = some (.invokestatic 1002, n)) (hp0 : pc + n = p) (ra : rg a) (rb : rg b) (hst : (st.map fun v => v.category).sum ≤ 8) (h : wW B k p L (vi (min a b) :: st) σ Q) : wW B k pc L (vi b :: vi a :: st) σ Q := by
  subst hp0
  refine g_go hk hc rfl rfl (by intro h; cases h) (fun M hM => ?_) h
  simp only [pm_step]
  rw [if_neg (by decide), if_pos trivial, if_pos hst]
  have : (if Int32.ofInt b < Int32.ofInt a then Int32.ofInt b else Int32.ofInt a) = Int32.ofInt (min a b) := by
    by_cases hh : b < a
    · rw [if_pos ((rg_lt rb ra).mpr hh)]; congr 1; omega
    · rw [if_neg (fun z => hh ((rg_lt rb ra).mp z))]; congr 1; omega
  rw [this]
/-- the texts' letters -/
def l2_tx (a : Nat) : List Int := match pm_txt[a - 3]? with
  | some q => q.2.2.2.map Int32.toInt
  | none => []
theorem g_tlen {a : Nat} (p : Nat) (hk : pm_code k = C) (hc : C[pc]? = some (.invokevirtual 1004, n)) (hp0 : pc + n = p) (h1 : 3 ≤ a) (h2 : a < 20) (hst : (st.map fun v => v.category).sum ≤ 8) (h : wW B k p L (vi ((l2_tx a).length : Int) :: st) σ Q) : wW B k pc L (.ref a :: st) σ Q := by
  subst hp0
  refine g_go hk hc rfl rfl (by intro h; cases h) (fun M hM => ?_) h
  have hl : a - 3 < pm_txt.length := by show a - 3 < 17; omega
  have e : pm_txt[a - 3]? = some pm_txt[a - 3] := List.getElem?_eq_getElem hl
  have e1 : hp B σ a = .inl (7, pm_txt[a - 3].2.2.2.length, .inl (fun i => pm_txt[a - 3].2.2.2.getD i 0)) := by
    unfold hp pm_S0
    rw [if_neg (by omega), if_pos (by omega), if_neg (by omega), if_neg (by omega), if_neg (by omega), e]
  simp only [pm_step, e1]
  rw [if_pos trivial, if_pos ⟨by show a < 32; omega, hst⟩]
  unfold l2_tx
  rw [e]
  dsimp only
  rw [List.length_map]; exact congrArg (fun z => some (pc + n, L, Value.int z :: st, M, hp B σ)) (Int32.ofInt_eq_ofNat).symm
theorem g_tch {a : Nat} {i : Int} (p : Nat) (hk : pm_code k = C) (hc : C[pc]? = some (.invokevirtual 1005, n)) (hp0 : pc + n = p) (h1 : 3 ≤ a) (h2 : a < 20) (h0 : 0 ≤ i) (hi : i < ((l2_tx a).length : Int)) (hst : (st.map fun v => v.category).sum ≤ 8) (h : wW B k p L (vi ((l2_tx a).getD i.toNat 0) :: st) σ Q) : wW B k pc L (vi i :: .ref a :: st) σ Q := by
  subst hp0
  refine g_go hk hc rfl rfl (by intro h; cases h) (fun M hM => ?_) h
  have hl : a - 3 < pm_txt.length := by show a - 3 < 17; omega
  have e : pm_txt[a - 3]? = some pm_txt[a - 3] := List.getElem?_eq_getElem hl
  have e1 : hp B σ a = .inl (7, pm_txt[a - 3].2.2.2.length, .inl (fun i => pm_txt[a - 3].2.2.2.getD i 0)) := by
    unfold hp pm_S0
    rw [if_neg (by omega), if_pos (by omega), if_neg (by omega), if_neg (by omega), if_neg (by omega), e]
  have e2 : l2_tx a = pm_txt[a - 3].2.2.2.map Int32.toInt := by
    unfold l2_tx
    rw [e]
  rw [e2, List.length_map] at hi
  have hsm : pm_txt[a - 3].2.2.2.length < 2147483648 := by
    have h9 : pm_txt.all (fun q => decide (q.2.2.2.length < 2147483648)) = true := by decide +kernel
    simpa using List.all_eq_true.mp h9 _ (List.getElem_mem hl)
  have hr := rg_in h0 hi hsm
  simp only [pm_step, e1]
  rw [if_neg (by decide), if_pos trivial, if_pos ⟨by show a < 32; omega, hr.1, hst⟩, hr.2, e2]
  have : i.toNat < pm_txt[a - 3].2.2.2.length := by omega
  simp [List.getD, this]
theorem g_ret {x : Int} (hk : pm_code k = C) (hc : C[pc]? = some (.ireturn, n)) (hr : pm_R k = some .int) (h142 : k ≠ 142 ∨ 0 ≤ x) (h : Q x σ) : wW B k pc L [vi x] σ Q := fun M hM => pm_end (r := some (vi x)) (by rw [hk]; exact hc) rfl rfl (by rw [hr]; rfl) ⟨rfl, x, σ, by unfold l2_rv; rw [hr]; dsimp only; rw [if_neg (by omega)], rfl, h⟩
theorem g_retb {x : Int} (hk : pm_code k = C) (hc : C[pc]? = some (.ireturn, n)) (hr : pm_R k = some .boolean) (hx : x = 0 ∨ x = 1) (h : Q x σ) : wW B k pc L [vi x] σ Q := fun M hM => pm_end (r := some (vi x)) (by rw [hk]; exact hc) rfl rfl (by rw [hr]; rcases hx with rfl | rfl <;> rfl) ⟨rfl, x, σ, by unfold l2_rv; rw [hr]; dsimp only; rw [if_neg (by omega)], rfl, h⟩
theorem g_retv (hk : pm_code k = C) (hc : C[pc]? = some (.return_, n)) (hr : pm_R k = none) (h : Q 0 σ) : wW B k pc L [] σ Q := fun M hM => pm_end (r := none) (by rw [hk]; exact hc) rfl rfl (by rw [hr]; rfl) ⟨rfl, 0, σ, by unfold l2_rv; rw [hr], rfl, h⟩
theorem g_cal {i : Instr} {q : Nat} {b : Bool} {as rest : List Value} (hk : pm_code k = C) (hc : C[pc]? = some (i, n)) (h1 : pm_call i = some (q, b)) (hn : as.length = pm_na q) (hst : st = as.reverse ++ rest) (hok : ∀ M : pm_M, M.1 = 212 → pm_cok q as rest M (hp B σ) = true) (h : wC B q as σ (fun x σ' => wW B k (pc + 3) L ((l2_rv q x).toList ++ rest) σ' Q)) : wW B k pc L st σ Q := fun M hM => pm_cal (by rw [hk]; exact hc) h1 hn hst (hok M hM) ((h M hM).mono (fun r M' S' hq => by
  obtain ⟨rfl, x, σ', rfl, rfl, h9⟩ := hq
  exact h9 M' hM))
theorem l2_cok {q a c : Nat} {as rest : List Value} {M : pm_M} (hM : M.1 = 212) (hK : pm_K q = 0) (hO : pm_O q = c) (ha : l2_cl a = some c) (h1 : as.all (fun v => v.category == 1) = true) (h2 : (rest.map fun v => v.category).sum ≤ 8) : pm_cok q (.ref a :: as) rest M (hp B σ) = true := by
  obtain ⟨⟨fs, e1⟩, e2, e3⟩ := hp_cl (B := B) (σ := σ) ha
  unfold pm_cok pm_rcv
  rw [decide_eq_true h2, hK]
  simp only [List.all_cons, h1, e1, hO]
  rw [decide_eq_true (show pm_k ≤ a ∧ a < M.1 from ⟨e2, by omega⟩)]
  simp [Value.category]
theorem l2_cos {q : Nat} {as rest : List Value} {M : pm_M} (hK : pm_K q = 1) (h1 : as.all (fun v => v.category == 1) = true) (h2 : (rest.map fun v => v.category).sum ≤ 8) : pm_cok q as rest M (hp B σ) = true := by
  unfold pm_cok pm_rcv
  rw [decide_eq_true h2, hK, h1]
  rfl
/-- a call with an answer -/
theorem g_cvi {i : Instr} {q a c : Nat} {b : Bool} {as rest : List Value} {ty : FieldType} (p : Nat) (hk : pm_code k = C) (hc : C[pc]? = some (i, n)) (h1 : pm_call i = some (q, b)) (hp0 : pc + 3 = p) (hK : pm_K q = 0) (hO : pm_O q = c) (hR : pm_R q = some ty) (h42 : q ≠ 142) (ha : l2_cl a = some c) (hn : as.length + 1 = pm_na q) (hst : st = as.reverse ++ (.ref a :: rest)) (h2 : as.all (fun v => v.category == 1) = true) (h3 : (rest.map fun v => v.category).sum ≤ 8) (h : wC B q (.ref a :: as) σ (fun x σ' => wW B k p L (vi x :: rest) σ' Q)) : wW B k pc L st σ Q := by
  subst hp0
  refine g_cal hk hc h1 (as := .ref a :: as) (rest := rest) (by rw [← hn]; rfl) (by rw [hst]; simp) (fun M hM => l2_cok hM hK hO ha h2 h3) (h.mono (fun x σ' hq => ?_))
  unfold l2_rv
  rw [hR]
  dsimp only
  rw [if_neg (fun z => h42 z.1)]
  exact hq
theorem g_cvv {i : Instr} {q a c : Nat} {b : Bool} {as rest : List Value} (p : Nat) (hk : pm_code k = C) (hc : C[pc]? = some (i, n)) (h1 : pm_call i = some (q, b)) (hp0 : pc + 3 = p) (hK : pm_K q = 0) (hO : pm_O q = c) (hR : pm_R q = none) (ha : l2_cl a = some c) (hn : as.length + 1 = pm_na q) (hst : st = as.reverse ++ (.ref a :: rest)) (h2 : as.all (fun v => v.category == 1) = true) (h3 : (rest.map fun v => v.category).sum ≤ 8) (h : wC B q (.ref a :: as) σ (fun _ σ' => wW B k p L rest σ' Q)) : wW B k pc L st σ Q := by
  subst hp0
  refine g_cal hk hc h1 (as := .ref a :: as) (rest := rest) (by rw [← hn]; rfl) (by rw [hst]; simp) (fun M hM => l2_cok hM hK hO ha h2 h3) (h.mono (fun x σ' hq => ?_))
  unfold l2_rv
  rw [hR]
  exact hq
theorem g_csi {i : Instr} {q : Nat} {b : Bool} {as rest : List Value} {ty : FieldType} (p : Nat) (hk : pm_code k = C) (hc : C[pc]? = some (i, n)) (h1 : pm_call i = some (q, b)) (hp0 : pc + 3 = p) (hK : pm_K q = 1) (hR : pm_R q = some ty) (h42 : q ≠ 142) (hn : as.length = pm_na q) (hst : st = as.reverse ++ rest) (h2 : as.all (fun v => v.category == 1) = true) (h3 : (rest.map fun v => v.category).sum ≤ 8) (h : wC B q as σ (fun x σ' => wW B k p L (vi x :: rest) σ' Q)) : wW B k pc L st σ Q := by
  subst hp0
  refine g_cal hk hc h1 hn hst (fun M hM => l2_cos hK h2 h3) (h.mono (fun x σ' hq => ?_))
  unfold l2_rv
  rw [hR]
  dsimp only
  rw [if_neg (fun z => h42 z.1)]
  exact hq
theorem g_csv {i : Instr} {q : Nat} {b : Bool} {as rest : List Value} (p : Nat) (hk : pm_code k = C) (hc : C[pc]? = some (i, n)) (h1 : pm_call i = some (q, b)) (hp0 : pc + 3 = p) (hK : pm_K q = 1) (hR : pm_R q = none) (hn : as.length = pm_na q) (hst : st = as.reverse ++ rest) (h2 : as.all (fun v => v.category == 1) = true) (h3 : (rest.map fun v => v.category).sum ≤ 8) (h : wC B q as σ (fun _ σ' => wW B k p L rest σ' Q)) : wW B k pc L st σ Q := by
  subst hp0
  refine g_cal hk hc h1 hn hst (fun M hM => l2_cos hK h2 h3) (h.mono (fun x σ' hq => ?_))
  unfold l2_rv
  rw [hR]
  exact hq
end RULES
