/-! ===== the class's field: its tables ===== -/
theorem ipow_le {p : Int} (h : 1 ≤ p) {i j : Nat} (hij : i ≤ j) : p ^ i ≤ p ^ j := by
  obtain ⟨P, rfl⟩ := Int.eq_ofNat_of_zero_le (show 0 ≤ p by omega)
  rw [← Int.natCast_pow, ← Int.natCast_pow]
  exact Int.ofNat_le.mpr (Nat.pow_le_pow_right (by omega) hij)
theorem enc_n {p : Int} (h0 : 0 < p) (n : Int) : ∀ k : Nat, enc (fun i => n / p ^ i % p) p k = n % p ^ k
  | 0 => by
    show (0 : Int) = n % p ^ 0
    rw [Int.pow_zero, Int.emod_one]
  | k + 1 => by
    show enc (fun i => n / p ^ i % p) p k + n / p ^ k % p * p ^ k = n % p ^ (k + 1)
    rw [enc_n h0 n k, Int.pow_succ]
    have hp : (0 : Int) < p ^ k := Int.pow_pos h0
    have h1 := Int.emod_add_mul_ediv n (p ^ k)
    have h2 := Int.emod_add_mul_ediv (n / p ^ k) p
    have a0 := Int.emod_nonneg n (show p ^ k ≠ 0 by omega)
    have a1 := Int.emod_lt_of_pos n hp
    have b0 := Int.emod_nonneg (n / p ^ k) (show p ≠ 0 by omega)
    have b1 := Int.emod_lt_of_pos (n / p ^ k) h0
    have e : n = (n % p ^ k + n / p ^ k % p * p ^ k) + p ^ k * p * (n / p ^ k / p) := by
      have h3 : p ^ k * (n / p ^ k) = p ^ k * (n / p ^ k % p + p * (n / p ^ k / p)) := by rw [h2]
      rw [Int.mul_add, ← Int.mul_assoc, Int.mul_comm (p ^ k) (n / p ^ k % p)] at h3
      omega
    have lt : n % p ^ k + n / p ^ k % p * p ^ k < p ^ k * p := by
      have h4 : n / p ^ k % p * p ^ k ≤ (p - 1) * p ^ k := Int.mul_le_mul_of_nonneg_right (by omega) (Int.le_of_lt hp)
      rw [Int.sub_mul, Int.one_mul, Int.mul_comm p] at h4
      omega
    have ge : 0 ≤ n % p ^ k + n / p ^ k % p * p ^ k := Int.add_nonneg a0 (Int.mul_nonneg b0 (Int.le_of_lt hp))
    have h5 : n % (p ^ k * p) = (n % p ^ k + n / p ^ k % p * p ^ k) % (p ^ k * p) := by
      have h6 : n % (p ^ k * p) = ((n % p ^ k + n / p ^ k % p * p ^ k) + p ^ k * p * (n / p ^ k / p)) % (p ^ k * p) := by rw [← e]
      rw [Int.add_mul_emod_self_left] at h6
      exact h6
    rw [h5, Int.emod_eq_of_lt ge lt]
theorem enc_cg {d e : Nat → Int} {p : Int} : ∀ k : Nat, (∀ i, i < k → d i = e i) → enc d p k = enc e p k
  | 0, _ => rfl
  | k + 1, h => by
    show enc d p k + d k * p ^ k = enc e p k + e k * p ^ k
    rw [enc_cg k (fun i hi => h i (by omega)), h k (by omega)]
theorem enc_s {p : Int} (h0 : 0 < p) {k : Nat} {n : Int} (n0 : 0 ≤ n) (n1 : n < p ^ k) : ∃ v : gqT p k, enc v.1 p k = n := by
  refine ⟨gqV h0 (fun i => n / p ^ i), ?_⟩
  rw [enc_cg (e := fun i => n / p ^ i % p) k (fun i hi => by rw [gqV_i, if_pos hi]), enc_n h0, Int.emod_eq_of_lt n0 n1]
theorem enc_0d {d e : Nat → Int} {p : Int} : ∀ k : Nat, (∀ i, 1 ≤ i → d i = e i) → enc d p (k + 1) - enc e p (k + 1) = d 0 - e 0
  | 0, _ => by
    show (0 : Int) + d 0 * p ^ 0 - (0 + e 0 * p ^ 0) = d 0 - e 0
    rw [Int.pow_zero]; omega
  | k + 1, h => by
    have ih := enc_0d (d := d) (e := e) (p := p) k h
    show enc d p (k + 1) + d (k + 1) * p ^ (k + 1) - (enc e p (k + 1) + e (k + 1) * p ^ (k + 1)) = d 0 - e 0
    rw [h (k + 1) (by omega)]
    omega
/-- the tables are right -/
def FOK {p : Int} (hp : isPr p) (σ : l2_m) : Prop := σ 110 3 = p ∧ σ 110 4 = p ^ gk p ∧ σ 110 5 = (if p = 2 then 0 else (gQ p : Int) / 2) ∧ σ 110 6 = (gQ p : Int) / (p - 1) ∧ σ 110 7 = (gQ p : Int) ∧ (∀ a : gE p, σ 111 (enc a.1 p (gk p)) = cod hp a) ∧ (∀ v : gE p, v ≠ gqO (pr_pos hp) → σ 112 (cod hp v) = cod hp (gqA (pr_pos hp) v (gqE (pr_pos hp)))) ∧ (∀ n : Int, 0 < n → n < p → σ 113 (cdn hp n / ((gQ p : Int) / (p - 1))) = n)
def frF (σ τ : l2_m) : Prop := ∀ b j, (b < 110 ∨ 113 < b) → τ b j = σ b j
theorem c53 {B : va_E} {σ : l2_m} {K : Int → l2_m → Prop} {p : Int} (hp : isPr p) (h3 : σ 110 3 = p) (h4 : σ 110 4 = p ^ gk p) (a : gE p) (hK : K (enc (gqM (pr_pos hp) (gt p) a).1 p (gk p)) σ) : wC B 53 [vr 110, vi (enc a.1 p (gk p)), vi (gtl p)] σ K := by
  have h0 := pr_pos hp
  obtain ⟨p2, p97, -⟩ := pr_rest _ hp
  obtain ⟨⟨k2, k9⟩, ⟨q1, q2⟩, -⟩ := gFacts hp
  obtain ⟨e0, e1⟩ := enc_b h0 a.2.1 (gk p)
  obtain ⟨n, hn⟩ : ∃ n, n = enc a.1 p (gk p) := ⟨_, rfl⟩
  rw [← hn] at e0 e1 ⊢
  have htl : 0 ≤ gtl p := Int.natCast_nonneg _
  have htl2 : gtl p ≤ 104 := by
    obtain ⟨-, -, -, -, f5, ⟨i, i1, i2⟩, -⟩ := gFacts hp
    rw [← f5 i i1 i2]
    have : ∀ i : Fin 25, l2_PR 2 ((i.val : Nat) : Int) ≤ 104 := by decide
    exact this ⟨i, i1⟩
  have hnp : n * p ≤ 9409 * 97 := by
    have h1 : n * p ≤ 9409 * p := Int.mul_le_mul_of_nonneg_right (by omega) (by omega)
    omega
  have hnp0 : 0 ≤ n * p := Int.mul_nonneg e0 (by omega)
  refine o53 ?_
  unfold w53
  rw [h3]
  refine ⟨⟨by omega, by omega⟩, ?_⟩
  rw [if_neg (by omega)]
  intro x3 ex3
  rw [h4]
  have emx : max (p ^ gk p) 1 = p ^ gk p := by omega
  refine ⟨⟨⟨by omega, by omega⟩, ⟨by omega, by omega⟩, by omega, by omega⟩, ?_⟩
  intro x4 ex4
  rw [emx] at ex4
  have hx4 : 0 ≤ x4 ∧ x4 < p := by
    rw [ex4, ex3]
    refine ⟨Int.ediv_nonneg hnp0 (by omega), ?_⟩
    refine Int.ediv_lt_of_lt_mul (by omega) ?_
    rw [Int.mul_comm p]
    exact Int.mul_lt_mul_of_pos_right e1 h0
  unfold w53_38
  refine lz3_inv (fun x5 x6 x7 => 0 ≤ x7 ∧ x7 ≤ (gk p : Int) ∧ x6 = p ^ x7.toNat ∧ x5 = enc (gqM h0 (gt p) a).1 p x7.toNat) (fun _ _ x7 => 9 - x7) ?_ ⟨by decide, by omega, by show (1 : Int) = p ^ 0; rw [Int.pow_zero], rfl⟩
  intro X x5 x6 x7 hX ⟨i0, i1, ex6, ex5⟩
  obtain ⟨i, hi⟩ : ∃ i : Nat, x7 = (i : Int) := ⟨x7.toNat, by omega⟩
  subst hi
  rw [Int.toNat_natCast] at ex6 ex5
  have x6p : (0 : Int) < x6 := by rw [ex6]; exact Int.pow_pos h0
  have hle : x6 ≤ p ^ gk p := by rw [ex6]; exact ipow_le (by omega) (by omega)
  rw [h4]
  refine ⟨⟨by omega, by omega⟩, fun _ => ⟨⟨by omega, by omega⟩, ⟨by omega, by omega⟩⟩, ?_⟩
  by_cases hik : i < gk p
  · have hlt : x6 < p ^ gk p := by
      rw [ex6]
      have h1 : p ^ (i + 1) ≤ p ^ gk p := ipow_le (by omega) (by omega)
      rw [Int.pow_succ] at h1
      have h2 : p ^ i * 2 ≤ p ^ i * p := Int.mul_le_mul_of_nonneg_left p2 (by rw [← ex6]; omega)
      omega
    rw [if_pos ⟨by omega, hlt⟩]
    rw [h3]
    have d1 : 0 ≤ x3 / x6 := Int.ediv_nonneg (by omega) (by omega)
    have d2 : x3 / x6 ≤ x3 := Int.ediv_le_self _ (by omega)
    have d3 : 0 ≤ gtl p / x6 := Int.ediv_nonneg htl (by omega)
    have d4 : gtl p / x6 ≤ gtl p := Int.ediv_le_self _ htl
    have m0 := Int.emod_nonneg (gtl p / x6) (show p ≠ 0 by omega)
    have m1 := Int.emod_lt_of_pos (gtl p / x6) h0
    have pr0 : 0 ≤ x4 * (gtl p / x6 % p) := Int.mul_nonneg hx4.1 m0
    have pr1 : x4 * (gtl p / x6 % p) ≤ 97 * 97 := Int.mul_le_mul (by omega) (by omega) m0 (by decide)
    refine ⟨⟨⟨by omega, by omega⟩, x6p, by omega, ⟨by omega, by omega⟩, htl, ⟨by omega, by omega⟩, ⟨by omega, by omega⟩, h0, d3, ⟨by omega, by omega⟩, by omega⟩, ?_⟩
    intro x5' e5' x6' e6'
    refine hX x5' x6' ((i : Int) + 1) ⟨by omega, by omega, ?_, ?_⟩ (by omega)
    · rw [e6', ex6, show ((i : Int) + 1).toNat = i + 1 by omega, Int.pow_succ]
    · rw [e5', show ((i : Int) + 1).toNat = i + 1 by omega]
      show _ = enc (gqM h0 (gt p) a).1 p i + (gqM h0 (gt p) a).1 i * p ^ i
      have hd := gqM_d h0 (k := gk p) (by omega) (gtl p) a hik
      have hg : (gqM h0 (gt p) a).1 i = (gqM h0 (fun i => gtl p / p ^ i % p) a).1 i := rfl
      rw [hg, hd, ← hn, ← ex6, ← ex3, ← ex4, ex5]
  · rw [if_neg (fun w => by
      have : i = gk p := by omega
      rw [ex6, this] at w
      omega)]
    have : i = gk p := by omega
    rw [ex5, this]; exact hK
/-- exponents -/
theorem c52 {B : va_E} {σ : l2_m} {K : Int → l2_m → Prop} {p : Int} (hp : isPr p) (h3 : σ 110 3 = p) (h4 : σ 110 4 = p ^ gk p) (h7 : σ 110 7 = (gQ p : Int)) (hK : ∀ τ : l2_m, (∀ b j, b ≠ 111 → τ b j = σ b j) → (∀ a : gE p, τ 111 (enc a.1 p (gk p)) = cod hp a) → K 0 τ) : wC B 52 [vr 110] σ K := by
  have h0 := pr_pos hp
  obtain ⟨p2, p97, -⟩ := pr_rest _ hp
  obtain ⟨⟨k2, k9⟩, ⟨q1, q2⟩, -, -, f5, ⟨i0, hi0, hi1⟩, -⟩ := gFacts hp
  have hc := g_cyc hp
  have eQ := hc.2
  refine o52 ?_
  unfold w52 w52_4
  refine lz2_inv (fun x1 x2 => 0 ≤ x2 ∧ x2 ≤ 25 ∧ ((i0 : Int) < x2 → x1 = gtl p)) (fun _ x2 => 25 - x2) ?_ ⟨by decide, by decide, fun w => by omega⟩
  intro X x1 x2 hX ⟨j0, j1, hx1⟩
  refine ⟨⟨by omega, by omega⟩, ?_⟩
  by_cases hj : x2 < 25
  · rw [if_pos ⟨hj, hj⟩, h3]
    refine ⟨⟨j0, hj, ⟨by omega, by omega⟩⟩, ?_⟩
    obtain ⟨j, hjn⟩ : ∃ j : Nat, x2 = (j : Int) := ⟨x2.toNat, by omega⟩
    subst hjn
    by_cases he : l2_PR 1 (j : Int) = p
    · rw [if_pos he]
      intro x1' e1'
      refine hX x1' ((j : Int) + 1) ⟨by omega, by omega, fun _ => ?_⟩ (by omega)
      rw [e1']; exact f5 j (by omega) he
    · rw [if_neg he]
      refine hX x1 ((j : Int) + 1) ⟨by omega, by omega, fun w => hx1 ?_⟩ (by omega)
      rcases Int.lt_or_le (i0 : Int) (j : Int) with z | z
      · exact z
      · exfalso
        have : i0 = j := by omega
        rw [this] at hi1
        exact he hi1
  · rw [if_neg (fun w => hj w.1)]
    have ex1 : x1 = gtl p := hx1 (by omega)
    unfold w52_48
    intro t0 et0
    have nt0 : ∀ b j, b ≠ 111 → t0 b j = σ b j := fun b j w => by rw [et0, l2_u_ne w]
    have ez : enc (gqO h0 : gE p).1 p (gk p) = 0 := enc_z (gk p) (fun i _ => gqO_i h0 i)
    have e1 : enc (gqE h0 : gE p).1 p (gk p) = 1 := by
      have h8 := enc_0d (d := (gqE h0 : gE p).1) (e := (gqO h0 : gE p).1) (p := p) (gk p - 1) (fun i hi => by
        rw [gqO_i]
        show (if i < gk p then (if i = 0 then 1 else 0) % p else 0) = 0
        have i0' : ¬ i = 0 := by omega
        rw [if_neg i0', Int.zero_emod]
        split <;> rfl)
      rw [show gk p - 1 + 1 = gk p by omega, ez, gqO_i] at h8
      have hE0 : (gqE h0 : gE p).1 0 = 1 := by
        show (if 0 < gk p then (if 0 = 0 then 1 else 0) % p else 0) = 1
        rw [if_pos (by omega), if_pos rfl, Int.emod_eq_of_lt (by decide) (by omega)]
      omega
    unfold w52_62
    refine lz3_inv (fun (x2 x3 : Int) t => 0 ≤ x3 ∧ x3 ≤ (gQ p : Int) ∧ x2 = enc (gqg h0 (gt p) x3.toNat : gE p).1 p (gk p) ∧ (∀ b j, b ≠ 111 → t b j = σ b j) ∧ t 111 0 = (gQ p : Int) ∧ (∀ e : Nat, (e : Int) < x3 → t 111 (enc (gqg h0 (gt p) e : gE p).1 p (gk p)) = (e : Int))) (fun _ x3 _ => (gQ p : Int) - x3) ?_ ⟨by decide, by omega, e1.symm, nt0, by rw [et0, l2_u_self, h7], fun e w => by omega⟩
    intro Y x2 x3 t hY ⟨a0, a1, ea, at1, at2, at3⟩
    rw [at1 110 7 (by decide), h7]
    refine ⟨⟨⟨by omega, by omega⟩, ⟨by omega, by omega⟩⟩, ?_⟩
    by_cases hlt : x3 < (gQ p : Int)
    · rw [if_pos hlt]
      obtain ⟨e, he⟩ : ∃ e : Nat, x3 = (e : Int) := ⟨x3.toNat, by omega⟩
      subst he
      rw [Int.toNat_natCast] at ea
      have hb := enc_b h0 (gqg h0 (gt p) e : gE p).2.1 (gk p)
      have hnz := enc_nz h0 (gqg_nz h0 (gt p) hc.1 e)
      rw [← ea] at hb hnz
      refine ⟨⟨by omega, by omega⟩, ?_⟩
      rw [if_neg (by omega)]
      refine ⟨⟨by omega, by omega⟩, ?_⟩
      intro t' et'
      have t3 : t' 110 3 = p := by rw [et', l2_u_ne (by decide), at1 110 3 (by decide)]; exact h3
      have t4 : t' 110 4 = p ^ gk p := by rw [et', l2_u_ne (by decide), at1 110 4 (by decide)]; exact h4
      unfold w52_88
      rw [ex1, ea]
      refine c53 hp t3 t4 (gqg h0 (gt p) e) ?_
      refine hY _ ((e : Int) + 1) t' ⟨by omega, by omega, ?_, fun b j w => by rw [et', l2_u_ne w]; exact at1 b j w, ?_, fun e' he' => ?_⟩ (by omega)
      · rw [show ((e : Int) + 1).toNat = e + 1 by omega]; rfl
      · rw [et', l2_u_nj (by omega)]; exact at2
      · rw [et']
        unfold l2_u
        by_cases hee : e' = e
        · rw [hee, ← ea, if_pos ⟨rfl, rfl⟩]
        · rw [if_neg (fun w => hee (gqg_inj h0 (gt p) hc.1 (by omega) (by omega) (enc_eq h0 (w.2.trans ea))))]
          exact at3 e' (by omega)
    · rw [if_neg hlt]
      refine hK t at1 (fun a => ?_)
      by_cases ha : a = gqO h0
      · rw [ha, ez, cod_0]; exact at2
      · obtain ⟨-, b1, b2, b3⟩ := cod_nz hp ha
        have h9 := at3 (cod hp a).toNat (by omega)
        rw [← b3] at h9
        rw [h9]; omega
/-- successors -/
theorem c54 {B : va_E} {σ : l2_m} {K : Int → l2_m → Prop} {p : Int} (hp : isPr p) (h3 : σ 110 3 = p) (h4 : σ 110 4 = p ^ gk p) (hx : ∀ a : gE p, σ 111 (enc a.1 p (gk p)) = cod hp a) (hK : ∀ τ : l2_m, (∀ b j, b ≠ 112 → τ b j = σ b j) → (∀ v : gE p, v ≠ gqO (pr_pos hp) → τ 112 (cod hp v) = cod hp (gqA (pr_pos hp) v (gqE (pr_pos hp)))) → K 0 τ) : wC B 54 [vr 110] σ K := by
  have h0 := pr_pos hp
  obtain ⟨p2, p97, -⟩ := pr_rest _ hp
  obtain ⟨⟨k2, k9⟩, ⟨q1, q2⟩, -⟩ := gFacts hp
  have hc := g_cyc hp
  have eQ := hc.2
  refine o54 ?_
  unfold w54 w54_2
  refine lz2_inv (fun (x : Int) t => 1 ≤ x ∧ x ≤ p ^ gk p ∧ (∀ b j, b ≠ 112 → t b j = σ b j) ∧ (∀ v : gE p, v ≠ gqO h0 → enc v.1 p (gk p) < x → t 112 (cod hp v) = cod hp (gqA h0 v (gqE h0)))) (fun x _ => p ^ gk p - x) ?_ ⟨by decide, by omega, fun _ _ _ => rfl, fun v hv w => by have := enc_nz h0 hv; omega⟩
  intro X x t hX ⟨x0, x1, t1, t2⟩
  rw [t1 110 4 (by decide), t1 110 3 (by decide), h4, h3]
  refine ⟨⟨⟨by omega, by omega⟩, ⟨by omega, by omega⟩⟩, ?_⟩
  by_cases hlt : x < p ^ gk p
  · rw [if_pos ⟨hlt, by omega⟩]
    refine ⟨⟨by omega, by omega⟩, ?_⟩
    rw [if_neg (by omega)]
    refine ⟨⟨h0, by omega⟩, ?_⟩
    obtain ⟨v, hv⟩ := enc_s h0 (k := gk p) (n := x) (by omega) hlt
    have vnz : v ≠ gqO h0 := fun w => by
      rw [w, enc_z (gk p) (fun i _ => gqO_i h0 i)] at hv
      omega
    have m0 := Int.emod_nonneg x (show p ≠ 0 by omega)
    have m1 := Int.emod_lt_of_pos x h0
    have d0 : x % p = v.1 0 := by
      have := enc_dg h0 v.2.1 (i := 0) (n := gk p) (by omega)
      rw [Int.pow_zero, Int.ediv_one, hv] at this
      exact this
    have hE : ∀ i, (gqE h0 : gE p).1 i = if i = 0 then 1 else 0 := fun i => by
      show (if i < gk p then (if i = 0 then 1 else 0) % p else 0) = if i = 0 then 1 else 0
      by_cases hi : i = 0
      · rw [if_pos (by omega), if_pos hi, Int.emod_eq_of_lt (by decide) (by omega)]
      · rw [if_neg hi, Int.zero_emod]
        split <;> rfl
    have hs := enc_0d (d := (gqA h0 v (gqE h0)).1) (e := v.1) (p := p) (gk p - 1) (fun i hi => by
      rw [gqA_i, hE, if_neg (by omega), Int.add_zero]; exact Int.emod_eq_of_lt (v.2.1 i).1 (v.2.1 i).2)
    rw [show gk p - 1 + 1 = gk p by omega, hv, gqA_i, hE, if_pos rfl] at hs
    have hm := enc_b h0 (gqA h0 v (gqE h0)).2.1 (gk p)
    have cb := cod_b hp v
    have cv := (cod_nz hp vnz).2.2.1
    have fin : ∀ z : Int, z = enc (gqA h0 v (gqE h0)).1 p (gk p) → w54_55 B t x z X K := by
      intro z ez
      unfold w54_55
      refine ⟨⟨by omega, by omega⟩, ?_⟩
      intro x4 ex4
      rw [t1 111 x (by decide), ← hv, hx v] at ex4
      refine ⟨⟨by omega, by omega⟩, fun _ _ => ⟨by omega, by omega⟩, ?_⟩
      rw [if_neg (by omega)]
      refine ⟨⟨by omega, by omega, by omega, by omega⟩, ?_⟩
      intro t' et'
      refine hX (x + 1) t' ⟨by omega, by omega, fun b j w => by rw [et', l2_u_ne w]; exact t1 b j w, fun u hu hux => ?_⟩ (by omega)
      rw [et', ex4]
      unfold l2_u
      by_cases huv : u = v
      · rw [huv, if_pos ⟨rfl, rfl⟩, t1 111 z (by decide), ez]
        exact hx _
      · rw [if_neg (fun w => huv (cod_inj hp w.2))]
        refine t2 u hu ?_
        rcases Int.lt_or_le (enc u.1 p (gk p)) x with w | w
        · exact w
        · exact absurd (enc_eq h0 (show enc u.1 p (gk p) = enc v.1 p (gk p) by omega)) huv
    unfold w54_35
    rw [t1 110 3 (by decide), h3]
    refine ⟨⟨⟨by omega, by omega⟩, ⟨by omega, by omega⟩⟩, ?_⟩
    by_cases hl : x % p = p - 1
    · rw [if_pos hl]
      refine fin _ ?_
      rw [← d0, hl, show p - 1 + 1 = p by omega, Int.emod_self] at hs
      omega
    · rw [if_neg hl]
      refine fin _ ?_
      rw [← d0, Int.emod_eq_of_lt (by omega) (by omega)] at hs
      omega
  · rw [if_neg (fun w => hlt w.1)]
    refine hK t t1 (fun v hv => t2 v hv ?_)
    have := (enc_b h0 v.2.1 (gk p)).2
    omega
