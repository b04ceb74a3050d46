/-! ===== numbers; choose ===== -/
theorem cdn_inj {p : Int} (hp : isPr p) {n m : Int} (n0 : 0 ≤ n) (n1 : n < p) (m0 : 0 ≤ m) (m1 : m < p) (h : cdn hp n = cdn hp m) : n = m := by
  have h0 := pr_pos hp
  obtain ⟨p2, p97, -⟩ := pr_rest _ hp
  obtain ⟨⟨k2, k9⟩, -⟩ := gFacts hp
  have e := cod_inj hp h
  have h1 : (gqS h0 n (gqE h0 : gE p)).1 0 = (gqS h0 m (gqE h0 : gE p)).1 0 := by rw [e]
  have hE0 : (gqE h0 : gE p).1 0 = 1 := by
    show (if 0 < gk p then (if 0 = 0 then 1 else 0) % p else 0) = 1
    rw [if_pos (by omega), if_pos rfl, Int.emod_eq_of_lt (by decide) (by omega)]
  rw [gqS_i, gqS_i, hE0, Int.mul_one, Int.mul_one, Int.emod_eq_of_lt n0 n1, Int.emod_eq_of_lt m0 m1] at h1
  exact h1
theorem enc_num {p : Int} (hp : isPr p) {n : Int} (n0 : 0 ≤ n) (n1 : n < p) : enc (gqS (pr_pos hp) n (gqE (pr_pos hp) : gE p)).1 p (gk p) = n := by
  have h0 := pr_pos hp
  obtain ⟨p2, p97, -⟩ := pr_rest _ hp
  obtain ⟨⟨k2, k9⟩, -⟩ := gFacts hp
  have hE : ∀ i, (gqE h0 : gE p).1 i = if i = 0 then 1 else 0 := fun i => by
    show (if i < gk p then (if i = 0 then 1 else 0) % p else 0) = if i = 0 then 1 else 0
    by_cases hi : i = 0
    · rw [if_pos (by omega), if_pos hi, Int.emod_eq_of_lt (by decide) (by omega)]
    · rw [if_neg hi, Int.zero_emod]
      split <;> rfl
  have hs := enc_0d (d := (gqS h0 n (gqE h0 : gE p)).1) (e := (gqO h0 : gE p).1) (p := p) (gk p - 1) (fun i hi => by
    rw [gqS_i, gqO_i, hE, if_neg (by omega), Int.mul_zero, Int.zero_emod])
  rw [show gk p - 1 + 1 = gk p by omega, enc_z (d := (gqO h0 : gE p).1) (gk p) (fun i _ => gqO_i h0 i), gqS_i, gqO_i, hE, if_pos rfl, Int.mul_one, Int.emod_eq_of_lt n0 n1] at hs
  omega
theorem c55 {B : va_E} {σ : l2_m} {K : Int → l2_m → Prop} {p : Int} (hp : isPr p) (h3 : σ 110 3 = p) (h6 : σ 110 6 = (gQ p : Int) / (p - 1)) (hx : ∀ a : gE p, σ 111 (enc a.1 p (gk p)) = cod hp a) (hK : ∀ τ : l2_m, (∀ b j, b ≠ 113 → τ b j = σ b j) → (∀ n : Int, 0 < n → n < p → τ 113 (cdn hp n / ((gQ p : Int) / (p - 1))) = n) → K 0 τ) : wC B 55 [vr 110] σ K := by
  have h0 := pr_pos hp
  obtain ⟨p2, p97, -⟩ := pr_rest _ hp
  obtain ⟨⟨k2, k9⟩, ⟨q1, q2⟩, -, f4, -⟩ := gFacts hp
  have hc := g_cyc hp
  have eQ := hc.2
  obtain ⟨st, est⟩ : ∃ st : Int, st = (gQ p : Int) / (p - 1) := ⟨_, rfl⟩
  rw [← est] at h6 hK
  have eQs : (gQ p : Int) = (p - 1) * st := by
    have h5 : (gQ p : Int) % (p - 1) = 0 := by rw [show (gQ p : Int) = p ^ gk p - 1 by omega]; exact f4
    have := Int.mul_ediv_add_emod (gQ p : Int) (p - 1)
    rw [← est] at this
    omega
  have st1 : 1 ≤ st ∧ st ≤ 10000 := by
    refine ⟨?_, ?_⟩
    · rcases Int.lt_or_le 0 st with w | w
      · exact w
      · exfalso
        have h1 : (p - 1) * st ≤ (p - 1) * 0 := Int.mul_le_mul_of_nonneg_left w (by omega)
        omega
    · rw [est]
      have := Int.ediv_le_self (p - 1) (show (0 : Int) ≤ (gQ p : Int) by omega)
      omega
  have cd : ∀ n : Int, 0 < n → n < p → σ 111 n = cdn hp n ∧ 0 ≤ cdn hp n ∧ 0 ≤ cdn hp n / st ∧ cdn hp n / st < p - 1 ∧ cdn hp n = st * (cdn hp n / st) := fun n n0 n1 => by
    obtain ⟨a1, a2, a3⟩ := cdn_st hp n0 n1
    rw [← est] at a3
    have h1 := hx (gqS h0 n (gqE h0))
    rw [enc_num hp (by omega) n1] at h1
    have h2 := Int.mul_ediv_add_emod (cdn hp n) st
    refine ⟨h1, a1, Int.ediv_nonneg a1 (by omega), Int.ediv_lt_of_lt_mul (by omega) (by rw [← eQs]; exact a2), by omega⟩
  refine o55 ?_
  unfold w55 w55_2
  refine lz2_inv (fun (x : Int) t => 1 ≤ x ∧ x ≤ p ∧ (∀ b j, b ≠ 113 → t b j = σ b j) ∧ (∀ n : Int, 0 < n → n < x → t 113 (cdn hp n / st) = n)) (fun x _ => p - x) ?_ ⟨by decide, by omega, fun _ _ _ => rfl, fun n a b => by omega⟩
  intro X x t hX ⟨x0, x1, t1, t2⟩
  rw [t1 110 3 (by decide), h3]
  refine ⟨⟨⟨by omega, by omega⟩, ⟨by omega, by omega⟩⟩, ?_⟩
  by_cases hlt : x < p
  · rw [if_pos hlt, t1 110 6 (by decide), h6, t1 111 x (by decide)]
    obtain ⟨c1', c2', c3', c4', c5'⟩ := cd x (by omega) hlt
    have cb := cod_b hp (gqS h0 x (gqE h0))
    have cb' : cdn hp x ≤ (gQ p : Int) := cb.2
    rw [c1', show max st 1 = st by omega]
    refine ⟨⟨by omega, by omega, ⟨by omega, by omega⟩, ⟨by omega, by omega⟩, by omega, c2'⟩, ?_⟩
    intro x2 ex2
    rw [← ex2] at c3' c4'
    refine ⟨⟨by omega, by omega⟩, ?_⟩
    rw [if_neg (by omega)]
    refine ⟨⟨by omega, by omega⟩, ?_⟩
    intro t' et'
    refine hX (x + 1) t' ⟨by omega, by omega, fun b j w => by rw [et', l2_u_ne w]; exact t1 b j w, fun n n0 n1 => ?_⟩ (by omega)
    rw [et']
    unfold l2_u
    by_cases hn : n = x
    · rw [hn, if_pos ⟨rfl, ex2.symm⟩]
    · rw [if_neg (fun w => hn ?_)]
      · exact t2 n n0 (by omega)
      · obtain ⟨-, -, -, -, d5⟩ := cd n n0 (by omega)
        refine cdn_inj hp (by omega) (by omega) (by omega) hlt ?_
        rw [d5, c5', w.2, ex2]
  · rw [if_neg hlt]
    exact hK t t1 (fun n n0 n1 => t2 n n0 (by omega))
/-- the field of a prime is made ready -/
theorem c51 {B : va_E} {σ : l2_m} {K : Int → l2_m → Prop} {p : Int} (hp : isPr p) (hr : rg (σ 110 3)) (hF : σ 110 3 = p → FOK hp σ) (hK : ∀ τ : l2_m, frF σ τ → FOK hp τ → K 0 τ) : wC B 51 [vr 110, vi p] σ K := by
  have h0 := pr_pos hp
  obtain ⟨p2, p97, -⟩ := pr_rest _ hp
  obtain ⟨⟨k2, k9⟩, ⟨q1, q2⟩, f3, f4, -⟩ := gFacts hp
  have hc := g_cyc hp
  have eQ := hc.2
  refine o51 ?_
  unfold w51
  refine ⟨⟨⟨by omega, by omega⟩, hr⟩, ?_⟩
  by_cases he : p = σ 110 3
  · rw [if_pos (Or.inl he)]
    exact hK σ (fun _ _ _ => rfl) (hF he.symm)
  · rw [if_neg (fun w => w.elim he (fun z => z hp))]
    intro t1 e1 t2 e2
    have n2 : ∀ b j, ¬ (b = 110 ∧ (j = 3 ∨ j = 4)) → t2 b j = σ b j := fun b j w => by rw [e2]; unfold l2_u; rw [if_neg (by omega), e1]; unfold l2_u; rw [if_neg (by omega)]
    have m3 : t2 110 3 = p := by rw [e2, l2_u_nj (by decide), e1, l2_u_self]
    have m4 : t2 110 4 = p ^ 1 := by rw [e2, l2_u_self, Int.pow_succ, Int.pow_zero, Int.one_mul]
    unfold w51_28
    refine lz2_inv (fun (x : Int) t => 0 ≤ x ∧ x + 1 ≤ (gk p : Int) ∧ t 110 4 = p ^ (x.toNat + 1) ∧ t 110 3 = p ∧ (∀ b j, ¬ (b = 110 ∧ (j = 3 ∨ j = 4)) → t b j = σ b j)) (fun x _ => 9 - x) ?_ ⟨by decide, by omega, m4, m3, n2⟩
    intro X x t hX ⟨x0, x1, a4, a3, an⟩
    obtain ⟨i, hi⟩ : ∃ i : Nat, x = (i : Int) := ⟨x.toNat, by omega⟩
    subst hi
    rw [Int.toNat_natCast] at a4
    have le : p ^ (i + 1) ≤ p ^ gk p := ipow_le (by omega) (by omega)
    have pos : (0 : Int) < p ^ (i + 1) := Int.pow_pos h0
    rw [a4]
    refine ⟨⟨by omega, by omega⟩, fun _ => ⟨by omega, by omega⟩, ?_⟩
    by_cases hik : i + 1 < gk p
    · have lt : p ^ (i + 1) < 500 := Int.lt_of_le_of_lt (ipow_le (by omega) (by omega)) f3
      rw [if_pos ⟨by omega, lt⟩]
      intro t' et'
      refine hX ((i : Int) + 1) t' ⟨by omega, by omega, ?_, by rw [et', l2_u_nj (by decide)]; exact a3, fun b j w => ?_⟩ (by omega)
      · rw [et', l2_u_self, show ((i : Int) + 1).toNat + 1 = i + 1 + 1 by omega, Int.pow_succ p (i + 1)]
      · rw [et']; unfold l2_u; rw [if_neg (by omega)]; exact an b j w
    · have eik : i + 1 = gk p := by omega
      rw [eik] at a4
      rw [if_neg (fun w => by rw [eik] at w; omega)]
      unfold w51_60
      intro t' et'
      have b7 : t' 110 7 = (gQ p : Int) := by rw [et', l2_u_self, a4]; omega
      have bn : ∀ b j, ¬ (b = 110 ∧ j = 7) → t' b j = t b j := fun b j w => by rw [et']; unfold l2_u; rw [if_neg w]
      have go : ∀ z : Int, z = (if p = 2 then 0 else (gQ p : Int) / 2) → w51_86 B t' p z K := by
        intro z ez
        unfold w51_86
        intro u1 d1
        have u7 : u1 110 7 = (gQ p : Int) := by rw [d1, l2_u_nj (by decide)]; exact b7
        rw [u7]
        refine ⟨⟨⟨by omega, by omega⟩, ⟨by omega, by omega⟩, by omega, by omega⟩, ?_⟩
        intro u2 d2
        rw [show max (p - 1) 1 = p - 1 by omega] at d2
        have un : ∀ b j, ¬ (b = 110 ∧ (j = 5 ∨ j = 6)) → u2 b j = t' b j := fun b j w => by rw [d2]; unfold l2_u; rw [if_neg (by omega), d1]; unfold l2_u; rw [if_neg (by omega)]
        have v3 : u2 110 3 = p := by rw [un 110 3 (by omega), bn 110 3 (by omega)]; exact a3
        have v4 : u2 110 4 = p ^ gk p := by rw [un 110 4 (by omega), bn 110 4 (by omega)]; exact a4
        have v5 : u2 110 5 = (if p = 2 then 0 else (gQ p : Int) / 2) := by rw [d2, l2_u_nj (by decide), d1, l2_u_self]; exact ez
        have v6 : u2 110 6 = (gQ p : Int) / (p - 1) := by rw [d2, l2_u_self]
        have v7 : u2 110 7 = (gQ p : Int) := by rw [un 110 7 (by omega)]; exact b7
        refine c52 hp v3 v4 v7 (fun w1 g1 g2 => ?_)
        refine c54 hp (by rw [g1 110 3 (by decide)]; exact v3) (by rw [g1 110 4 (by decide)]; exact v4) g2 (fun w2 g3 g4 => ?_)
        have g2' : ∀ a : gE p, w2 111 (enc a.1 p (gk p)) = cod hp a := fun a => by rw [g3 111 _ (by decide)]; exact g2 a
        refine c55 hp (by rw [g3 110 3 (by decide), g1 110 3 (by decide)]; exact v3) (by rw [g3 110 6 (by decide), g1 110 6 (by decide)]; exact v6) g2' (fun w3 g5 g6 => ?_)
        have all : ∀ b j, b ≠ 111 → b ≠ 112 → b ≠ 113 → w3 b j = u2 b j := fun b j z1 z2 z3 => (g5 b j z3).trans ((g3 b j z2).trans (g1 b j z1))
        refine hK w3 (fun b j w => ?_) ⟨?_, ?_, ?_, ?_, ?_, fun a => ?_, fun v hv => ?_, g6⟩
        · rw [all b j (by omega) (by omega) (by omega), un b j (by omega), bn b j (by omega)]; exact an b j (by omega)
        · rw [all 110 3 (by decide) (by decide) (by decide)]; exact v3
        · rw [all 110 4 (by decide) (by decide) (by decide)]; exact v4
        · rw [all 110 5 (by decide) (by decide) (by decide)]; exact v5
        · rw [all 110 6 (by decide) (by decide) (by decide)]; exact v6
        · rw [all 110 7 (by decide) (by decide) (by decide)]; exact v7
        · rw [g5 111 _ (by decide)]; exact g2' a
        · rw [g5 112 _ (by decide)]; exact g4 v hv
      refine ⟨⟨by omega, by omega⟩, ?_⟩
      by_cases h2 : p = 2
      · rw [if_pos h2]
        exact go 0 (by rw [if_pos h2])
      · rw [if_neg h2, b7]
        exact ⟨⟨⟨by omega, by omega⟩, by omega⟩, go _ (by rw [if_neg h2])⟩
