theorem ite_ht {c : Prop} {i : Decidable c} {X Y : Prop} (h : if c then X else Y) (hc : c) : X := by rwa [if_pos hc] at h
theorem ite_hf {c : Prop} {i : Decidable c} {X Y : Prop} (h : if c then X else Y) (hc : ¬ c) : Y := by rwa [if_neg hc] at h
/-! ===== longs, texts, the throw ===== -/
theorem rg_tl (a : Nat) : rg ((l2_tx a).length : Int) := by
  unfold l2_tx
  split
  · rename_i q hq
    have h9 : pm_txt.all (fun q => decide (q.2.2.2.length < 2147483648)) = true := by decide +kernel
    have := List.all_eq_true.mp h9 _ (List.mem_of_getElem? hq)
    rw [List.length_map]
    simp only [decide_eq_true_eq] at this
    exact ⟨by omega, by omega⟩
  · exact ⟨by decide, by decide⟩
theorem rg_tc (a i : Nat) : rg ((l2_tx a).getD i 0) := by
  rw [List.getD_eq_getElem?_getD]
  unfold l2_tx
  split
  · rename_i q hq
    rw [List.getElem?_map]
    cases q.2.2.2[i]? with
    | none => exact ⟨by decide, by decide⟩
    | some v => exact ⟨Int32.le_toInt v, Int32.toInt_lt v⟩
  · rw [List.getElem?_nil]; exact ⟨by decide, by decide⟩
def lcm (a b : Int) : Int := if b < a then 1 else if a = b then 0 else -1
theorem rg_lcm (a b : Int) : rg (lcm a b) := by
  unfold lcm
  split
  · decide
  · split <;> decide
theorem rl_to {x : Int} (h0 : 0 ≤ x) (h1 : x < 9223372036854775808) : (Int64.ofInt x).toInt = x := Int64.toInt_ofInt_of_le (by show (-9223372036854775808 : Int) ≤ x; omega) h1
theorem i64_nat {x : Int} (h0 : 0 ≤ x) : (Int64.ofInt x).toBitVec = BitVec.ofNat 64 x.toNat := by
  obtain ⟨n, rfl⟩ := Int.eq_ofNat_of_zero_le h0
  show BitVec.ofInt 64 (n : Int) = _
  rw [BitVec.ofInt_natCast]; rfl
section RULES4
variable {B : va_E} {k pc n : Nat} {C : List (Instr × Nat)} {L st : List Value} {σ : l2_m} {Q : Int → l2_m → Prop}
theorem r_lc0 (p : Nat) (hk : pm_code k = C) (hc : C[pc]? = some (.lconst 0, n)) (hp0 : pc + n = p) (h : wW B k p L (vl 0 :: st) σ Q) : wW B k pc L st σ Q := g_lc p hk hc hp0 h
theorem r_ls {j : Nat} {x : Int64} (p : Nat) (hk : pm_code k = C) (hc : C[pc]? = some (.lstore j, n)) (hp0 : pc + n = p) (hj : l2_okb L j = true) (hl : Nat.ble (j + 2) L.length = true) (h : wW B k p ((L.set j (.long x)).set (j + 1) pm_un) st σ Q) : wW B k pc L (.long x :: st) σ Q := by
  have e : pm_kill L j = L := by
    have h1 := l2_okb1 hj
    unfold pm_kill
    cases j with
    | zero => rfl
    | succ i =>
      dsimp only
      cases hL : L[i]? with
      | none => rfl
      | some w =>
        have := h1 w hL
        dsimp only
        rw [if_neg (by rw [this]; decide)]
  exact g_ls p hk hc hp0 (l2_okb1 hj) (Nat.le_of_ble_eq_true hl) (by unfold pm_st2; rw [e]) h
theorem r_i2l {a : Int} (p : Nat) (hk : pm_code k = C) (hc : C[pc]? = some (.i2l, n)) (hp0 : pc + n = p) (ra : rg a) (h : wW B k p L (vl a :: st) σ Q) : wW B k pc L (vi a :: st) σ Q := by
  subst hp0
  have e : (Int32.ofInt a).toInt64 = Int64.ofInt a := by
    apply Int64.toInt.inj
    rw [Int32.toInt_toInt64, rg_to ra, Int64.toInt_ofInt_of_le (by show (-9223372036854775808 : Int) ≤ a; omega) (by show a < (9223372036854775808 : Int); omega)]
  exact g_go hk hc rfl rfl (by intro h; cases h) (fun M hM => by simp only [pm_step, e]) h
theorem r_lshl {a : Int} (p : Nat) (hk : pm_code k = C) (hc : C[pc]? = some (.lshl, n)) (hp0 : pc + n = p) (h : wW B k p L (vl (a * 256) :: st) σ Q) : wW B k pc L (vi 8 :: vl a :: st) σ Q := by
  subst hp0
  have e : Int64.ofInt a <<< ((Int32.ofInt 8).toInt64 &&& 63) = Int64.ofInt (a * 256) := by
    have e1 : ((Int32.ofInt 8).toInt64 &&& 63) = (8 : Int64) := by decide
    rw [e1]
    apply Int64.toBitVec.inj
    show (Int64.ofInt a).toBitVec <<< ((8 : Int64).toBitVec.smod 64) = BitVec.ofInt 64 (a * 256)
    have e2 : (8 : Int64).toBitVec.smod 64 = BitVec.ofNat 64 8 := by decide
    rw [e2, BitVec.shiftLeft_eq', BitVec.ofInt_mul, BitVec.shiftLeft_eq_mul_twoPow]
    rfl
  exact g_go hk hc rfl rfl (by intro h; cases h) (fun M hM => by simp only [pm_step, e]) h
theorem r_lor {a b : Int} (p : Nat) (hk : pm_code k = C) (hc : C[pc]? = some (.lor, n)) (hp0 : pc + n = p) (h1 : 0 ≤ a) (h2 : 0 ≤ b) (h3 : a < 9223372036854775808) (h4 : b < 9223372036854775808) (h : wW B k p L (vl (ior a b) :: st) σ Q) : wW B k pc L (vl b :: vl a :: st) σ Q := by
  subst hp0
  have e : Int64.ofInt a ||| Int64.ofInt b = Int64.ofInt (ior a b) := by
    apply Int64.toBitVec.inj
    unfold ior
    rw [Int64.toBitVec_or, i64_nat h1, i64_nat h2, i64_nat (Int.natCast_nonneg _), Int.toNat_natCast, BitVec.ofNat_or]
  exact g_go hk hc rfl rfl (by intro h; cases h) (fun M hM => by simp only [pm_step, e]) h
theorem r_lcmp {a b : Int} (p : Nat) (hk : pm_code k = C) (hc : C[pc]? = some (.lcmp, n)) (hp0 : pc + n = p) (h1 : 0 ≤ a) (h2 : 0 ≤ b) (h3 : a < 9223372036854775808) (h4 : b < 9223372036854775808) (h : wW B k p L (vi (lcm a b) :: st) σ Q) : wW B k pc L (vl b :: vl a :: st) σ Q := by
  subst hp0
  have e : lg_cmp (Int64.ofInt a) (Int64.ofInt b) = Int32.ofInt (lcm a b) := by
    unfold lg_cmp lcm
    simp only [gt_iff_lt, Int64.lt_iff_toInt_lt, ← Int64.toInt_inj, rl_to h1 h3, rl_to h2 h4]
    repeat' split
    all_goals rfl
  exact g_go hk hc rfl rfl (by intro h; cases h) (fun M hM => by simp only [pm_step, e]) h
theorem r_thr {pc : Nat} (hc : pc_142[pc]? = some (.athrow, 3)) (h : Q (-1) σ) : wW B 142 pc L [] σ Q := fun M hM => by
  refine ⟨1, some .null, M, hp B σ, ?_, rfl, -1, σ, rfl, rfl, h⟩
  show pm_body (pm_run 0) 142 pc L [] M (hp B σ) = _
  have e : (pm_code 142)[pc]? = some (.athrow, 3) := hc
  unfold pm_body
  rw [e]
  rfl
end RULES4
theorem l2_nar (x : Int) : vp_nar .byte (Int32.ofInt x) = Int32.ofInt (byt x) := by
  rw [← l2_byt]; rfl
theorem g_bas {B : va_E} {k pc n : Nat} {C : List (Instr × Nat)} {L st : List Value} {σ : l2_m} {Q : Int → l2_m → Prop} {i x : Int} (p : Nat) (hk : pm_code k = C) (hc : C[pc]? = some (.bastore, n)) (hp0 : pc + n = p) (h0 : 0 ≤ i) (h1 : i < 700) (h : wW B k p L st (l2_u σ 189 i (byt x)) Q) : wW B k pc L (vi x :: vi i :: .ref 189 :: st) σ Q := by
  subst hp0
  have hr := rg_in (n := 700) h0 h1 (by decide)
  have e1 : hp B σ 189 = .inl (1, 700, .inl (fun j => Int32.ofInt (σ 189 j))) := rfl
  refine g_go hk hc rfl rfl (by intro h; cases h) (fun M hM => ?_) h
  simp only [pm_step, e1]
  rw [if_pos ⟨by decide, lt_of_eq_of_lt' hM (a := 189) (by decide), hr.1⟩, hr.2]
  congr 5
  funext b
  unfold va_up
  by_cases hb : b = 189
  · subst hb
    rw [if_pos rfl]
    show _ = Sum.inl (1, 700, Sum.inl (fun j : Nat => Int32.ofInt (l2_u σ 189 i (byt x) 189 (j : Int))))
    congr 4
    funext j
    unfold upd l2_u
    by_cases hj : j = i.toNat
    · rw [if_pos hj, if_pos ⟨rfl, by omega⟩, l2_nar]
    · rw [if_neg hj, if_neg (by rintro ⟨-, h⟩; omega)]
  · rw [if_neg hb]
    exact (hp_frame (fun j => l2_u_ne hb)).symm
