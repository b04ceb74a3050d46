/-! ===== the digits and the computed steps ===== -/
theorem enc_sp (d : Nat → Int) (p : Int) (i : Nat) : ∀ m, ∃ w, enc d p (i + m) = enc d p i + p ^ i * w
  | 0 => ⟨0, by rw [Int.mul_zero, Int.add_zero]; rfl⟩
  | m + 1 => by
    obtain ⟨w, h⟩ := enc_sp d p i m
    refine ⟨w + d (i + m) * p ^ m, ?_⟩
    show enc d p (i + m) + d (i + m) * p ^ (i + m) = _
    rw [h, Int.pow_add, Int.mul_add, Int.add_assoc]
    congr 2
    rw [← Int.mul_assoc, Int.mul_comm (d (i + m)), Int.mul_assoc]
theorem enc_dg {d : Nat → Int} {p : Int} (h0 : 0 < p) (hd : ∀ i, 0 ≤ d i ∧ d i < p) {i n : Nat} (hi : i < n) : enc d p n / p ^ i % p = d i := by
  obtain ⟨m, rfl⟩ : ∃ m, n = i + 1 + m := ⟨n - (i + 1), by omega⟩
  obtain ⟨w, h⟩ := enc_sp d p (i + 1) m
  obtain ⟨a, b⟩ := enc_b h0 hd i
  have hp : (0 : Int) < p ^ i := Int.pow_pos h0
  have e : enc d p (i + 1 + m) = enc d p i + (d i + p * w) * p ^ i := by
    rw [h]
    show enc d p i + d i * p ^ i + p ^ (i + 1) * w = _
    rw [Int.pow_succ, Int.add_mul, Int.add_assoc]
    congr 2
    rw [Int.mul_comm (p ^ i), Int.mul_assoc, Int.mul_assoc, Int.mul_comm (p ^ i)]
  rw [e, Int.add_mul_ediv_right _ _ (by omega), Int.ediv_eq_zero_of_lt a b, Int.zero_add, Int.add_mul_emod_self_left]
  exact Int.emod_eq_of_lt (hd i).1 (hd i).2
theorem enc_hi {d : Nat → Int} {p : Int} (h0 : 0 < p) (hd : ∀ i, 0 ≤ d i ∧ d i < p) (n : Nat) : enc d p (n + 1) / p ^ n = d n := by
  obtain ⟨a, b⟩ := enc_b h0 hd n
  have hp : (0 : Int) < p ^ n := Int.pow_pos h0
  show (enc d p n + d n * p ^ n) / p ^ n = d n
  rw [Int.add_mul_ediv_right _ _ (by omega), Int.ediv_eq_zero_of_lt a b, Int.zero_add]
/-- a step by digits -/
theorem gqM_d {p : Int} (h0 : 0 < p) {k : Nat} (hk : 1 ≤ k) (tl : Int) (a : gqT p k) {i : Nat} (hi : i < k) : (gqM h0 (fun i => tl / p ^ i % p) a).1 i = (enc a.1 p k * p / p ^ i + enc a.1 p k * p / p ^ k * (tl / p ^ i % p)) % p := by
  have e1 : (gqM h0 (fun i => tl / p ^ i % p) a).1 i = ((if i = 0 then 0 else a.1 (i - 1)) + a.1 (k - 1) * (tl / p ^ i % p)) % p := by
    unfold gqM
    rw [gqV_i, if_pos hi]
  obtain ⟨l, rfl⟩ : ∃ l, k = l + 1 := ⟨k - 1, by omega⟩
  have e2 : enc a.1 p (l + 1) * p / p ^ (l + 1) = a.1 l := by
    rw [Int.pow_succ, Int.mul_ediv_mul_of_pos_left _ _ h0]
    exact enc_hi h0 a.2.1 l
  rw [e1, e2, show l + 1 - 1 = l by omega]
  by_cases hz : i = 0
  · rw [if_pos hz, hz]
    rw [Int.pow_zero, Int.ediv_one, Int.zero_add, Int.ediv_one, Int.mul_comm (enc a.1 p (l + 1)) p, Int.add_comm, Int.add_mul_emod_self_left]
  · obtain ⟨m, rfl⟩ : ∃ m, i = m + 1 := ⟨i - 1, by omega⟩
    rw [if_neg hz, show m + 1 - 1 = m by omega, Int.pow_succ, Int.mul_ediv_mul_of_pos_left _ _ h0]
    have e3 := enc_dg h0 a.2.1 (i := m) (n := l + 1) (by omega)
    rw [← e3, Int.emod_add_emod]
theorem st_enc {P D h tl : Nat} (hP : 0 < P) (c : Nat → Int) : ∀ (m i : Nat), (∀ l, l < i + m → c l = (((D / P ^ l + h * (tl / P ^ l % P)) % P : Nat) : Int)) → enc c (P : Int) (i + m) = enc c (P : Int) i + ((stN P D h tl m (P ^ i) : Nat) : Int)
  | 0, i, _ => by show enc c P i = enc c P i + ((0 : Nat) : Int); omega
  | m + 1, i, hc => by
    have h1 := st_enc hP c m (i + 1) (fun l hl => hc l (by omega))
    rw [show i + 1 + m = i + (m + 1) by omega] at h1
    rw [h1]
    show enc c P i + c i * (P : Int) ^ i + _ = enc c P i + (((D / P ^ i + h * (tl / P ^ i % P)) % P * P ^ i + stN P D h tl m (P ^ i * P) : Nat) : Int)
    rw [hc i (by omega), Int.natCast_add, Int.natCast_mul, Int.natCast_pow, Nat.pow_succ, Int.add_assoc]
theorem enc_st {P k tl : Nat} (h0 : (0 : Int) < (P : Int)) (hk : 1 ≤ k) (a : gqT (P : Int) k) {n : Nat} (hn : enc a.1 (P : Int) k = (n : Int)) : enc (gqM h0 (fun i => (tl : Int) / (P : Int) ^ i % (P : Int)) a).1 (P : Int) k = ((spN P k tl n : Nat) : Int) := by
  have h := st_enc (P := P) (D := n * P) (h := n * P / P ^ k) (tl := tl) (by omega) (gqM h0 (fun i => (tl : Int) / (P : Int) ^ i % (P : Int)) a).1 k 0 (fun l hl => by
    rw [gqM_d h0 hk (tl : Int) a (by omega), hn]
    rw [Int.natCast_emod, Int.natCast_add, Int.natCast_mul, Int.natCast_ediv, Int.natCast_ediv, Int.natCast_emod, Int.natCast_ediv, Int.natCast_mul, Int.natCast_pow, Int.natCast_pow])
  rw [Nat.zero_add] at h
  rw [h]
  show (0 : Int) + _ = _
  rw [Int.zero_add]
  rfl
theorem irN_r (s : Nat → Nat) (e n : Nat) : irN s (e + 1) n = s (irN s e n) := (irN_t s e 1 n).symm
theorem cyc_ok {P k tl : Nat} {js : List Nat} (h : chN (P, k, tl, js) = true) (h0 : (0 : Int) < (P : Int)) : @cyc (P : Int) h0 k (fun i => (tl : Int) / (P : Int) ^ i % (P : Int)) (P ^ k - 1) ∧ ((P ^ k - 1 : Nat) : Int) + 1 = (P : Int) ^ k ∧ 1 ≤ k ∧ 1 < P := by
  obtain ⟨c1', c2', c3', c4', c5'⟩ := ch_ok h
  have eE : enc (gqE h0 : gqT (P : Int) k).1 (P : Int) k = 1 := by
    obtain ⟨l, rfl⟩ : ∃ l, k = 1 + l := ⟨k - 1, by omega⟩
    have key : ∀ m : Nat, enc (gqE h0 : gqT (P : Int) (1 + l)).1 (P : Int) (1 + m) = 1 := by
      intro m
      have v : ∀ i, (gqE h0 : gqT (P : Int) (1 + l)).1 i = if i = 0 then 1 else 0 := fun i => by
        unfold gqE
        rw [gqV_i]
        by_cases hi : i = 0
        · rw [if_pos (by omega), if_pos hi, Int.emod_eq_of_lt (by decide) (by omega)]
        · rw [if_neg hi, Int.zero_emod]
          split <;> rfl
      induction m with
      | zero =>
        show (0 : Int) + (gqE h0 : gqT (P : Int) (1 + l)).1 0 * (P : Int) ^ 0 = 1
        rw [v, if_pos rfl, Int.pow_zero]; rfl
      | succ m ih =>
        show enc (gqE h0 : gqT (P : Int) (1 + l)).1 (P : Int) (1 + m) + (gqE h0 : gqT (P : Int) (1 + l)).1 (1 + m) * (P : Int) ^ (1 + m) = 1
        rw [ih, v, if_neg (by omega), Int.zero_mul, Int.add_zero]
    exact key l
  have eg : ∀ e, enc (gqg h0 (fun i => (tl : Int) / (P : Int) ^ i % (P : Int)) e : gqT (P : Int) k).1 (P : Int) k = ((irN (spN P k tl) e 1 : Nat) : Int) := by
    intro e
    induction e with
    | zero => exact eE
    | succ e ih =>
      rw [irN_r]
      exact enc_st h0 c2' _ ih
  refine ⟨⟨by omega, enc_eq h0 ?_, fun e e0 e1 w => ?_, fun w => ?_⟩, ?_, c2', c1'⟩
  · rw [eg, c4', eE]; rfl
  · have h1 := eg e
    rw [w, eE] at h1
    exact c5' e e0 e1 (by omega)
  · have h1 := eE
    rw [w, enc_z k (fun i _ => gqO_i h0 i)] at h1
    omega
  · rw [← Int.natCast_pow]
    omega
