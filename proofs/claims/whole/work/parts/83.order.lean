/-! ===== the reference's order, as a row of all keys ===== -/
theorem ior_nn (a b : Int) : 0 ≤ ior a b := Int.natCast_nonneg _
theorem ior_assoc (a b c : Int) : ior (ior a b) c = ior a (ior b c) := by
  unfold ior
  rw [Int.toNat_natCast, Int.toNat_natCast, Nat.or_assoc]
theorem ior3 {x y z : Int} (x0 : 0 ≤ x) (x1 : x < 16) (y0 : 0 ≤ y) (y1 : y < 16) (z0 : 0 ≤ z) (z1 : z < 16) : ior (ior x (y * 16)) (z * 256) = x + 16 * y + 256 * z := by
  rw [ior_16 y0 x0 x1, ior_256 z0 (by omega) (by omega)]; omega
theorem q4 {u : Int} (h0 : 0 ≤ u) (h1 : u < 3) : (2 : Int) ^ (Int.toNat (4 * u)) = pu u := u3 (P := fun u => (2 : Int) ^ (Int.toNat (4 * u)) = pu u) (by decide) (by decide) (by decide) h0 h1
/-- three exponents, by an order's unknowns -/
def kk (f s a b c : Int) : Int := a * pu f + b * pu s + c * pu (3 - f - s)
theorem perm6 {P : Int → Int → Prop} (h01 : P 0 1) (h02 : P 0 2) (h10 : P 1 0) (h12 : P 1 2) (h20 : P 2 0) (h21 : P 2 1) {f s : Int} (f0 : 0 ≤ f) (f1 : f < 3) (s0 : 0 ≤ s) (s1 : s < 3) (hne : ¬ f = s) : P f s := by
  have hf : f = 0 ∨ f = 1 ∨ f = 2 := by omega
  have hs : s = 0 ∨ s = 1 ∨ s = 2 := by omega
  rcases hf with rfl | rfl | rfl <;> rcases hs with rfl | rfl | rfl
  · exact absurd rfl hne
  · exact h01
  · exact h02
  · exact h10
  · exact absurd rfl hne
  · exact h12
  · exact h20
  · exact h21
  · exact absurd rfl hne
theorem kk_ior {f s a b c : Int} (f0 : 0 ≤ f) (f1 : f < 3) (s0 : 0 ≤ s) (s1 : s < 3) (hne : ¬ f = s) (a0 : 0 ≤ a) (a1 : a < 16) (b0 : 0 ≤ b) (b1 : b < 16) (c0 : 0 ≤ c) (c1 : c < 16) : ior (ior (a * pu f) (b * pu s)) (c * pu (3 - f - s)) = kk f s a b c := by
  refine perm6 (P := fun f s => ior (ior (a * pu f) (b * pu s)) (c * pu (3 - f - s)) = kk f s a b c) ?_ ?_ ?_ ?_ ?_ ?_ f0 f1 s0 s1 hne
  · show ior (ior (a * 1) (b * 16)) (c * 256) = a * 1 + b * 16 + c * 256
    rw [Int.mul_one, ior3 a0 a1 b0 b1 c0 c1]; omega
  · show ior (ior (a * 1) (b * 256)) (c * 16) = a * 1 + b * 256 + c * 16
    rw [Int.mul_one, ior_assoc, ior_comm (b * 256), ← ior_assoc, ior3 a0 a1 c0 c1 b0 b1]; omega
  · show ior (ior (a * 16) (b * 1)) (c * 256) = a * 16 + b * 1 + c * 256
    rw [Int.mul_one, ior_comm (a * 16), ior3 b0 b1 a0 a1 c0 c1]; omega
  · show ior (ior (a * 16) (b * 256)) (c * 1) = a * 16 + b * 256 + c * 1
    rw [Int.mul_one, ior_comm, ← ior_assoc, ior3 c0 c1 a0 a1 b0 b1]; omega
  · show ior (ior (a * 256) (b * 1)) (c * 16) = a * 256 + b * 1 + c * 16
    rw [Int.mul_one, ior_assoc, ior_comm, ior3 b0 b1 c0 c1 a0 a1]; omega
  · show ior (ior (a * 256) (b * 16)) (c * 1) = a * 256 + b * 16 + c * 1
    rw [Int.mul_one, ior_assoc, ior_comm (b * 16), ior_comm, ior3 c0 c1 b0 b1 a0 a1]; omega
theorem kk_e {f s a b c : Int} (f0 : 0 ≤ f) (f1 : f < 3) (s0 : 0 ≤ s) (s1 : s < 3) (hne : ¬ f = s) (a0 : 0 ≤ a) (a1 : a < 16) (b0 : 0 ≤ b) (b1 : b < 16) (c0 : 0 ≤ c) (c1 : c < 16) : 0 ≤ kk f s a b c ∧ kk f s a b c < 4096 ∧ e4 (kk f s a b c) f = a ∧ e4 (kk f s a b c) s = b ∧ e4 (kk f s a b c) (3 - f - s) = c := by
  have key : ∀ x y z : Int, 0 ≤ x → x < 16 → 0 ≤ y → y < 16 → 0 ≤ z → z < 16 → 0 ≤ x + 16 * y + 256 * z ∧ x + 16 * y + 256 * z < 4096 ∧ e4 (x + 16 * y + 256 * z) 0 = x ∧ e4 (x + 16 * y + 256 * z) 1 = y ∧ e4 (x + 16 * y + 256 * z) 2 = z := fun x y z x0 x1 y0 y1 z0 z1 => ⟨by omega, by omega, e4_d0 x0 x1, e4_d1 x0 x1 y0 y1, e4_d2 x0 x1 y0 y1 z0 z1⟩
  refine perm6 (P := fun f s => 0 ≤ kk f s a b c ∧ kk f s a b c < 4096 ∧ e4 (kk f s a b c) f = a ∧ e4 (kk f s a b c) s = b ∧ e4 (kk f s a b c) (3 - f - s) = c) ?_ ?_ ?_ ?_ ?_ ?_ f0 f1 s0 s1 hne
  · have e : kk 0 1 a b c = a + 16 * b + 256 * c := by show a * 1 + b * 16 + c * 256 = _; omega
    rw [e]; obtain ⟨p, q, r, t, u⟩ := key a b c a0 a1 b0 b1 c0 c1; exact ⟨p, q, r, t, u⟩
  · have e : kk 0 2 a b c = a + 16 * c + 256 * b := by show a * 1 + b * 256 + c * 16 = _; omega
    rw [e]; obtain ⟨p, q, r, t, u⟩ := key a c b a0 a1 c0 c1 b0 b1; exact ⟨p, q, r, u, t⟩
  · have e : kk 1 0 a b c = b + 16 * a + 256 * c := by show a * 16 + b * 1 + c * 256 = _; omega
    rw [e]; obtain ⟨p, q, r, t, u⟩ := key b a c b0 b1 a0 a1 c0 c1; exact ⟨p, q, t, r, u⟩
  · have e : kk 1 2 a b c = c + 16 * a + 256 * b := by show a * 16 + b * 256 + c * 1 = _; omega
    rw [e]; obtain ⟨p, q, r, t, u⟩ := key c a b c0 c1 a0 a1 b0 b1; exact ⟨p, q, t, u, r⟩
  · have e : kk 2 0 a b c = b + 16 * c + 256 * a := by show a * 256 + b * 1 + c * 16 = _; omega
    rw [e]; obtain ⟨p, q, r, t, u⟩ := key b c a b0 b1 c0 c1 a0 a1; exact ⟨p, q, u, r, t⟩
  · have e : kk 2 1 a b c = c + 16 * b + 256 * a := by show a * 256 + b * 16 + c * 1 = _; omega
    rw [e]; obtain ⟨p, q, r, t, u⟩ := key c b a c0 c1 b0 b1 a0 a1; exact ⟨p, q, u, t, r⟩
theorem kk_of {f s k : Int} (f0 : 0 ≤ f) (f1 : f < 3) (s0 : 0 ≤ s) (s1 : s < 3) (hne : ¬ f = s) (k0 : 0 ≤ k) (k1 : k < 4096) : kk f s (e4 k f) (e4 k s) (e4 k (3 - f - s)) = k := by
  have kq := key_eq k0 k1
  refine perm6 (P := fun f s => kk f s (e4 k f) (e4 k s) (e4 k (3 - f - s)) = k) ?_ ?_ ?_ ?_ ?_ ?_ f0 f1 s0 s1 hne
  · show e4 k 0 * 1 + e4 k 1 * 16 + e4 k 2 * 256 = k; omega
  · show e4 k 0 * 1 + e4 k 2 * 256 + e4 k 1 * 16 = k; omega
  · show e4 k 1 * 16 + e4 k 0 * 1 + e4 k 2 * 256 = k; omega
  · show e4 k 1 * 16 + e4 k 2 * 256 + e4 k 0 * 1 = k; omega
  · show e4 k 2 * 256 + e4 k 0 * 1 + e4 k 1 * 16 = k; omega
  · show e4 k 2 * 256 + e4 k 1 * 16 + e4 k 0 * 1 = k; omega
theorem rk_or {h f s : Int} (f0 : 0 ≤ f) (f1 : f < 3) (s0 : 0 ≤ s) (s1 : s < 3) (hne : ¬ f = s) (k : Int) : rk (wt h f s) k = if h = 0 then 256 * e4 k f + 16 * e4 k s + e4 k (3 - f - s) else if h = 1 then 272 * e4 k f + 257 * e4 k s + 256 * e4 k (3 - f - s) else 256 * e4 k f + 255 * e4 k s + 240 * e4 k (3 - f - s) := by
  refine perm6 (P := fun f s => rk (wt h f s) k = if h = 0 then 256 * e4 k f + 16 * e4 k s + e4 k (3 - f - s) else if h = 1 then 272 * e4 k f + 257 * e4 k s + 256 * e4 k (3 - f - s) else 256 * e4 k f + 255 * e4 k s + 240 * e4 k (3 - f - s)) ?_ ?_ ?_ ?_ ?_ ?_ f0 f1 s0 s1 hne
  all_goals
    unfold rk wt
    by_cases h0 : h = 0
    · simp [h0]; omega
    · by_cases h1 : h = 1
      · simp [h1]; omega
      · simp [h0, h1]; omega
theorem MW_lt {W : Int → Int} {k l : Int} (h : rk W k < rk W l) : MW W k < MW W l := by
  have := e4_b k 0
  have := e4_b k 1
  have := e4_b k 2
  have := e4_b l 0
  have := e4_b l 1
  have := e4_b l 2
  unfold MW
  omega
theorem deg_or {f s : Int} (f0 : 0 ≤ f) (f1 : f < 3) (s0 : 0 ≤ s) (s1 : s < 3) (hne : ¬ f = s) (k : Int) : e4 k f + e4 k s + e4 k (3 - f - s) = e4 k 0 + e4 k 1 + e4 k 2 := by
  refine perm6 (P := fun f s => e4 k f + e4 k s + e4 k (3 - f - s) = e4 k 0 + e4 k 1 + e4 k 2) ?_ ?_ ?_ ?_ ?_ ?_ f0 f1 s0 s1 hne
  · rfl
  · show e4 k 0 + e4 k 2 + e4 k 1 = _; omega
  · show e4 k 1 + e4 k 0 + e4 k 2 = _; omega
  · show e4 k 1 + e4 k 2 + e4 k 0 = _; omega
  · show e4 k 2 + e4 k 0 + e4 k 1 = _; omega
  · show e4 k 2 + e4 k 1 + e4 k 0 = _; omega
/-- keys laid so far -/
def LO (σ τ : l2_m) (W : Int → Int) (P : Int → Prop) : Prop := (∀ b j, b ≠ 190 → ¬ (b = 186 ∧ j = 25) → τ b j = σ b j) ∧ 0 ≤ τ 186 25 ∧ τ 186 25 ≤ 4096 ∧ (∀ i : Int, 0 ≤ i → i < τ 186 25 → 0 ≤ τ 190 i ∧ τ 190 i < 4096 ∧ P (τ 190 i)) ∧ (∀ i j : Int, 0 ≤ i → i < j → j < τ 186 25 → MW W (τ 190 j) < MW W (τ 190 i)) ∧ (∀ k : Int, 0 ≤ k → k < 4096 → P k → ∃ i : Int, 0 ≤ i ∧ i < τ 186 25 ∧ τ 190 i = k)
theorem LO_cg {σ τ : l2_m} {W : Int → Int} {P Q : Int → Prop} (h : LO σ τ W P) (e : ∀ k : Int, 0 ≤ k → k < 4096 → (P k ↔ Q k)) : LO σ τ W Q := by
  obtain ⟨a1, a2, a3, a4, a5, a6⟩ := h
  exact ⟨a1, a2, a3, fun i x y => by obtain ⟨b1, b2, b3⟩ := a4 i x y; exact ⟨b1, b2, (e _ b1 b2).mp b3⟩, a5, fun k x y z => a6 k x y ((e k x y).mpr z)⟩
theorem LO_lt {σ τ : l2_m} {W : Int → Int} {P : Int → Prop} {k : Int} (h : LO σ τ W P) (k0 : 0 ≤ k) (k1 : k < 4096) (hk : ¬ P k) : τ 186 25 < 4096 := by
  obtain ⟨a1, a2, a3, a4, a5, a6⟩ := h
  apply Classical.byContradiction
  intro hc
  have e : τ 186 25 = 4096 := by omega
  have := cnt_inj (N := 4096) (fun i => if i < 4096 then τ 190 i else k) 4097 (fun _ => 1) (fun i x y => by
    by_cases hi : i < 4096
    · simp only [if_pos hi]
      obtain ⟨b1, b2, -⟩ := a4 i x (by omega)
      exact ⟨b1, b2, by decide⟩
    · simp only [if_neg hi]
      exact ⟨k0, k1, by decide⟩) (fun i j x y z => by
    simp only [if_pos (show i < 4096 by omega)]
    by_cases hj : j < 4096
    · simp only [if_pos hj]
      intro w
      have := a5 i j x y (by omega)
      rw [w] at this
      omega
    · simp only [if_neg hj]
      intro w
      have := (a4 i x (by omega)).2.2
      rw [w] at this
      exact hk this)
  have := cnt_bi (fun _ : Int => (1 : Int)) (n := 4096) (by decide)
  omega
section RF4
variable {B : va_E} {σ : l2_m} {K : Int → l2_m → Prop}
theorem r194 {ρ : l2_m} {W : Int → Int} {P : Int → Prop} {f s a b c : Int} (hL : LO ρ σ W P) (e7 : ρ 186 7 = f) (e8 : ρ 186 8 = s) (f0 : 0 ≤ f) (f1 : f < 3) (s0 : 0 ≤ s) (s1 : s < 3) (hne : ¬ f = s) (a0 : 0 ≤ a) (a1 : a < 16) (b0 : 0 ≤ b) (b1 : b < 16) (cc0 : 0 ≤ c) (cc1 : c < 16) (hP : ¬ P (kk f s a b c)) (hlt : ∀ l : Int, 0 ≤ l → l < 4096 → P l → MW W (kk f s a b c) < MW W l) (h : ∀ τ : l2_m, LO ρ τ W (fun k => P k ∨ k = kk f s a b c) → K 0 τ) : wC B 194 [vr 186, vi a, vi b, vi c] σ K := by
  obtain ⟨k0, k1, -⟩ := kk_e f0 f1 s0 s1 hne a0 a1 b0 b1 cc0 cc1
  have hroom := LO_lt hL k0 k1 hP
  obtain ⟨x1, x2, x3, x4, x5, x6⟩ := hL
  have t0 : 0 ≤ 3 - f - s := by omega
  have t1 : 3 - f - s < 3 := by omega
  have pb : ∀ u : Int, 0 ≤ u → u < 3 → 1 ≤ pu u ∧ pu u ≤ 256 := fun u _ _ => by
    unfold pu
    split
    · decide
    · split <;> decide
  have pf := pb f f0 f1
  have ps := pb s s0 s1
  have pt := pb (3 - f - s) t0 t1
  have ma := mul_b (a := a) (b := pu f) (m := 16) (n := 256) a0 (by omega) (by omega) pf.2
  have mb := mul_b (a := b) (b := pu s) (m := 16) (n := 256) b0 (by omega) (by omega) ps.2
  have mc := mul_b (a := c) (b := pu (3 - f - s)) (m := 16) (n := 256) cc0 (by omega) (by omega) pt.2
  have hab : ior (a * pu f) (b * pu s) < 2147483648 := by
    have e := kk_ior (c := 0) f0 f1 s0 s1 hne a0 a1 b0 b1 (by decide) (by decide)
    have z : ior (ior (a * pu f) (b * pu s)) (0 * pu (3 - f - s)) = ior (a * pu f) (b * pu s) := by
      rw [Int.zero_mul]
      unfold ior
      rw [Int.toNat_natCast, Int.toNat_zero, Nat.or_zero]
    rw [z] at e
    have := kk_e (c := 0) f0 f1 s0 s1 hne a0 a1 b0 b1 (by decide) (by decide)
    omega
  refine o194 ?_
  unfold w194
  rw [x1 186 7 (by decide) (by omega), x1 186 8 (by decide) (by omega), e7, e8, q4 f0 f1, q4 s0 s1, q4 t0 t1, kk_ior f0 f1 s0 s1 hne a0 a1 b0 b1 cc0 cc1]
  refine ⟨⟨by omega, by omega, by omega, by omega, by omega, by omega, by omega, by omega, by omega, by omega, ior_nn _ _, by omega, hab, by omega, x2, hroom⟩, ?_⟩
  intro σ1 g1 σ2 g2
  have a2 : ∀ b' j, σ2 b' j = if b' = 186 ∧ j = 25 then σ 186 25 + 1 else if b' = 190 ∧ j = σ 186 25 then kk f s a b c else σ b' j := fun b' j => by
    have q : σ1 186 25 = σ 186 25 := by rw [g1]; exact l2_u_ne (by decide)
    rw [g2, q, g1]; rfl
  have w25 : σ2 186 25 = σ 186 25 + 1 := by rw [a2, if_pos ⟨rfl, rfl⟩]
  have w190 : ∀ j, σ2 190 j = if j = σ 186 25 then kk f s a b c else σ 190 j := fun j => by
    rw [a2, if_neg (by omega)]
    by_cases hj : j = σ 186 25
    · rw [if_pos ⟨rfl, hj⟩, if_pos hj]
    · rw [if_neg (fun z => hj z.2), if_neg hj]
  refine h σ2 ⟨fun b' j z w => ?_, by omega, by omega, fun i y z => ?_, fun i j y z w => ?_, fun k y z w => ?_⟩
  · rw [a2, if_neg w, if_neg (fun q => z q.1)]; exact x1 b' j z w
  · rw [w190]
    by_cases hi : i = σ 186 25
    · rw [if_pos hi]; exact ⟨k0, k1, Or.inr rfl⟩
    · rw [if_neg hi]
      obtain ⟨v1, v2, v3⟩ := x4 i y (by omega)
      exact ⟨v1, v2, Or.inl v3⟩
  · rw [w190 j, w190 i, if_neg (show ¬ i = σ 186 25 by omega)]
    by_cases hj : j = σ 186 25
    · rw [if_pos hj]
      obtain ⟨v1, v2, v3⟩ := x4 i y (by omega)
      exact hlt _ v1 v2 v3
    · rw [if_neg hj]; exact x5 i j y z (by omega)
  · rcases w with w | w
    · obtain ⟨i, i0, i1, i2⟩ := x6 k y z w
      exact ⟨i, i0, by omega, by rw [w190, if_neg (by omega)]; exact i2⟩
    · exact ⟨σ 186 25, x2, by omega, by rw [w190, if_pos rfl, w]⟩
end RF4
