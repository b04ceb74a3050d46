/-! ===== the field that the tables tell ===== -/
theorem pig : ∀ (N : Nat) (f : Nat → Nat), (∀ i, i < N + 1 → f i < N) → (∀ i j, i < N + 1 → j < N + 1 → f i = f j → i = j) → False
  | 0, f, h, _ => absurd (h 0 (by omega)) (Nat.not_lt_zero _)
  | N + 1, f, h, hi => by
    refine pig N (fun i => if f i < f (N + 1) then f i else f i - 1) (fun i hi' => ?_) (fun i j hi' hj' hij => ?_)
    · show (if f i < f (N + 1) then f i else f i - 1) < N
      have h1 := h i (by omega)
      have h2 := h (N + 1) (by omega)
      have h3 : f i ≠ f (N + 1) := fun w => by
        have := hi i (N + 1) (by omega) (by omega) w; omega
      split <;> omega
    · have hij' : (if f i < f (N + 1) then f i else f i - 1) = (if f j < f (N + 1) then f j else f j - 1) := hij
      have h3 : f i ≠ f (N + 1) := fun w => by
        have := hi i (N + 1) (by omega) (by omega) w; omega
      have h4 : f j ≠ f (N + 1) := fun w => by
        have := hi j (N + 1) (by omega) (by omega) w; omega
      refine hi i j (by omega) (by omega) ?_
      split at hij' <;> split at hij' <;> omega
theorem pig_s (N : Nat) (f : Nat → Nat) (h : ∀ i, i < N → f i < N) (hi : ∀ i j, i < N → j < N → f i = f j → i = j) (m : Nat) (hm : m < N) : ∃ i, i < N ∧ f i = m := by
  refine Classical.byContradiction (fun w => ?_)
  refine pig N (fun i => if i < N then f i else m) (fun i _ => ?_) (fun i j hi' hj' hij => ?_)
  · show (if i < N then f i else m) < N
    split
    · rename_i h1; exact h i h1
    · exact hm
  · have hij' : (if i < N then f i else m) = (if j < N then f j else m) := hij
    by_cases h1 : i < N
    · by_cases h2 : j < N
      · rw [if_pos h1, if_pos h2] at hij'; exact hi i j h1 h2 hij'
      · rw [if_pos h1, if_neg h2] at hij'; exact absurd ⟨i, h1, hij'⟩ w
    · by_cases h2 : j < N
      · rw [if_neg h1, if_pos h2] at hij'; exact absurd ⟨j, h2, hij'.symm⟩ w
      · omega
theorem isFi_fp {p : Int} (hp : isPr p) {σ : l2_m} (hF : FOK hp σ) : @isFi (fpT p) (gE p) (FpF hp) (gFd hp) p (fpm (pr_pos hp)) (gph (pr_pos hp)) (cod hp) σ := by
  have h0 := pr_pos hp
  obtain ⟨p2, p97, -⟩ := pr_rest _ hp
  obtain ⟨⟨k2, k9⟩, f2, -, f4, -⟩ := gFacts hp
  have hc2 := (g_cyc hp).2
  have h6 := hF.2.2.2.1
  have h7 := hF.2.2.2.2.1
  have h13 := hF.2.2.2.2.2.2.2
  have eQ : (gQ p : Int) = (p - 1) * ((gQ p : Int) / (p - 1)) := by
    have h5 : (gQ p : Int) % (p - 1) = 0 := by rw [show (gQ p : Int) = p ^ gk p - 1 by omega]; exact f4
    have := Int.mul_ediv_add_emod (gQ p : Int) (p - 1)
    omega
  obtain ⟨st, est⟩ : ∃ st : Int, st = (gQ p : Int) / (p - 1) := ⟨_, rfl⟩
  rw [← est] at eQ h6 h13
  have st1 : 1 ≤ st := by
    rcases Int.lt_or_le 0 st with w | w
    · exact w
    · exfalso
      have h1 : (p - 1) * st ≤ (p - 1) * 0 := Int.mul_le_mul_of_nonneg_left w (by omega)
      omega
  have st2 : (gQ p : Int) ≤ 96 * st := by
    rw [eQ]; exact Int.mul_le_mul_of_nonneg_right (by omega) (by omega)
  have st3 : st ≤ (gQ p : Int) := by
    rw [est]; exact Int.ediv_le_self (p - 1) (by omega)
  have gp : ∀ n : Int, 0 ≤ n → n < p → (gph h0 (fpm h0 n) : gE p) = gqS h0 n (gqE h0) := fun n n0 n1 => by
    show gqS h0 (n % p) (gqE h0) = gqS h0 n (gqE h0)
    rw [Int.emod_eq_of_lt n0 n1]
  have g0 : (gqS h0 0 (gqE h0) : gE p) = gqO h0 := gq_e (fun i => by rw [gqS_i, gqO_i, Int.zero_mul, Int.zero_emod])
  have cj : ∀ n : Int, 0 < n → n < p → 0 ≤ cdn hp n / st ∧ cdn hp n / st < p - 1 ∧ cdn hp n = st * (cdn hp n / st) := fun n n0 n1 => by
    obtain ⟨a1, a2, a3⟩ := cdn_st hp n0 n1
    rw [← est] at a3
    have h2 := Int.mul_ediv_add_emod (cdn hp n) st
    exact ⟨Int.ediv_nonneg a1 (by omega), Int.ediv_lt_of_lt_mul (by omega) (by rw [← eQ]; exact a2), by omega⟩
  refine ⟨isEm_fp hp, gph_hom hp (gt p) (g_cyc hp).1 (g_cyc hp).2, isCk_gE hp hF, hF.1, fun n n0 n1 => ?_, fun a => ?_, fun e e0 e1 => ?_, by omega, by omega, by rw [h7, h6]; omega, by rw [h6]; omega⟩
  · rw [gp n n0 n1]; exact fofn_n hF n0 n1
  · by_cases ha : a = gqO h0
    · refine Or.inl ⟨0, by omega, by omega, ?_, ?_⟩
      · rw [gp 0 (by omega) (by omega), g0]; exact ha
      · unfold fnum
        rw [h7, (cod_z hp).mpr ha, if_pos rfl]
    · have cb := cod_b hp a
      have cne : cod hp a ≠ (gQ p : Int) := fun w => ha ((cod_z hp).mp w)
      have efn : fnum σ (cod hp a) = if cod hp a % st = 0 then σ 113 (cod hp a / st) else -1 := by
        unfold fnum
        rw [h7, if_neg cne, h6]
      rw [efn]
      by_cases hm : cod hp a % st = 0
      · rw [if_pos hm]
        have h2 := Int.mul_ediv_add_emod (cod hp a) st
        have m0 : 0 ≤ cod hp a / st := Int.ediv_nonneg cb.1 (by omega)
        have m1 : cod hp a / st < p - 1 := Int.ediv_lt_of_lt_mul (by omega) (by rw [← eQ]; omega)
        obtain ⟨i, i1, i2⟩ := pig_s (p - 1).toNat (fun i => (cdn hp ((i : Int) + 1) / st).toNat) (fun i hi => by
          have := cj ((i : Int) + 1) (by omega) (by omega)
          show (cdn hp ((i : Int) + 1) / st).toNat < _
          omega) (fun i j hi hj hij => by
          have a1 := cj ((i : Int) + 1) (by omega) (by omega)
          have a2 := cj ((j : Int) + 1) (by omega) (by omega)
          have hij' : (cdn hp ((i : Int) + 1) / st).toNat = (cdn hp ((j : Int) + 1) / st).toNat := hij
          have e1 : cdn hp ((i : Int) + 1) / st = cdn hp ((j : Int) + 1) / st := by omega
          have e2 : cdn hp ((i : Int) + 1) = cdn hp ((j : Int) + 1) := by rw [a1.2.2, a2.2.2, e1]
          have := cdn_inj hp (by omega) (by omega) (by omega) (by omega) e2
          omega) (cod hp a / st).toNat (by omega)
        have i2' : (cdn hp ((i : Int) + 1) / st).toNat = (cod hp a / st).toNat := i2
        have a1 := cj ((i : Int) + 1) (by omega) (by omega)
        have e1 : cdn hp ((i : Int) + 1) / st = cod hp a / st := by omega
        have e2 : cod hp a = cdn hp ((i : Int) + 1) := by rw [a1.2.2, e1]; omega
        refine Or.inl ⟨(i : Int) + 1, by omega, by omega, ?_, ?_⟩
        · rw [gp _ (by omega) (by omega)]
          exact cod_inj hp e2
        · rw [← e1]; exact h13 ((i : Int) + 1) (by omega) (by omega)
      · rw [if_neg hm]
        refine Or.inr ⟨rfl, fun b w => ?_⟩
        have w' : a = gqS h0 b.1 (gqE h0) := w
        have hb := b.2
        by_cases hb0 : b.1 = 0
        · rw [hb0, g0] at w'; exact ha w'
        · obtain ⟨-, -, a3⟩ := cdn_st hp (n := b.1) (by omega) (by omega)
          rw [← est] at a3
          refine hm ?_
          rw [w']; exact a3
  · rw [h7] at e1
    exact cod_s hp e0 (by omega)
