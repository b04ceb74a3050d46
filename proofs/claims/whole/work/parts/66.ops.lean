/-! ===== sums over terms are sums over keys ===== -/
theorem sum_re {cN : Nat} (ks : Int → Int) (n : Nat) : ∀ (f : Int → Int) (G : Int → Int → Int), (∀ i : Int, 0 ≤ i → i < n → 0 ≤ ks i ∧ ks i < cN) → (∀ i j : Int, 0 ≤ i → i < j → j < n → ks i ≠ ks j) → (∀ k : Int, 0 ≤ k → k < cN → f k ≠ 0 → ∃ i : Int, 0 ≤ i ∧ i < n ∧ ks i = k) → (∀ k, G k 0 = 0) → sumN (fun i => G (ks i) (f (ks i))) n = sumN (fun k => G k (f k)) cN := by
  induction n with
  | zero =>
    intro f G _ _ h3 h4
    refine (sumN_zero (fun k a b => ?_)).symm
    have : f k = 0 := Classical.byContradiction (fun hc => by
      obtain ⟨i, i1, i2, -⟩ := h3 k a b hc
      omega)
    rw [this]; exact h4 k
  | succ n ih =>
    intro f G h1 h2 h3 h4
    have hk := h1 n (by omega) (by omega)
    have e1 := ih (upI f (ks n) 0) G (fun i a b => h1 i a (by omega)) (fun i j a b c => h2 i j a b (by omega)) (fun k a b c => by
      unfold upI at c
      by_cases hkn : k = ks n
      · rw [if_pos hkn] at c; exact absurd rfl c
      · rw [if_neg hkn] at c
        obtain ⟨i, g1, g2, g3⟩ := h3 k a b c
        refine ⟨i, g1, ?_, g3⟩
        by_cases hi : i = n
        · subst hi; exact absurd g3.symm hkn
        · omega) h4
    have e2 : sumN (fun i => G (ks i) (upI f (ks n) 0 (ks i))) n = sumN (fun i => G (ks i) (f (ks i))) n := sumN_congr (fun i a b => by
      unfold upI
      rw [if_neg (h2 i n a (by omega) (by omega))])
    have e3 : sumN (fun k => G k (upI f (ks n) 0 k)) cN = sumN (upI (fun k => G k (f k)) (ks n) 0) cN := sumN_congr (fun k a b => by
      unfold upI
      by_cases hkn : k = ks n
      · rw [if_pos hkn, if_pos hkn]; exact h4 k
      · rw [if_neg hkn, if_neg hkn])
    rw [e2, e3, sumN_upd hk.1 hk.2] at e1
    show sumN (fun i => G (ks i) (f (ks i))) n + G (ks n) (f (ks n)) = _
    omega
theorem PR_sum {σ : l2_m} {o : Nat} {W f : Int → Int} (h : PR σ o W f) (G : Int → Int → Int) (hG : ∀ k, G k 0 = 0) : sumN (fun i => G (kom (σ (o + 1) i)) (σ (o + 2) i)) (σ o 2).toNat = sumN (fun k => G k (f k)) 4096 := by
  obtain ⟨h1, h2, h3, h4, h5⟩ := h
  have e := sum_re (cN := 4096) (fun i => kom (σ (o + 1) i)) (σ o 2).toNat f G (fun i a b => by
    obtain ⟨k, k1, k2, k3, k4, k5⟩ := h3 i a (by omega)
    rw [k3, kom_MW k1 k2]
    exact ⟨k1, k2⟩) (fun i j a b c => by
    obtain ⟨k, k1, k2, k3, k4, k5⟩ := h3 i a (by omega)
    obtain ⟨l, l1, l2, l3, l4, l5⟩ := h3 j (by omega) (by omega)
    have := h4 i j a b (by omega)
    rw [k3, l3, kom_MW k1 k2, kom_MW l1 l2]
    rintro rfl
    omega) (fun k k1 k2 k3 => by
    obtain ⟨i, i1, i2, i3⟩ := h5 k k1 k2 k3
    exact ⟨i, i1, by omega, by rw [i3, kom_MW k1 k2]⟩) hG
  rw [← e]
  refine sumN_congr (fun i a b => ?_)
  obtain ⟨k, k1, k2, k3, k4, k5⟩ := h3 i a (by omega)
  rw [k3, kom_MW k1 k2, k4]
/-! numbers by the prime -/
theorem mod_cancel {p x y a : Int} (h : x * y % p = 1) (p2 : 2 ≤ p) (h2 : a * y % p = 0) : a % p = 0 := by
  have e1 : a * (y * x) % p = 0 := by
    rw [← Int.mul_assoc, Int.mul_emod, h2, Int.zero_mul, Int.zero_emod]
  have e2 : a * (y * x) % p = a % p := by
    rw [Int.mul_comm y x, Int.mul_emod, h, Int.mul_one, Int.emod_emod]
  rw [← e2]; exact e1
theorem emod_self_lt {a p : Int} (h0 : 0 ≤ a) (h1 : a < p) : a % p = a := Int.emod_eq_of_lt h0 h1
/-- the modulus' inverses are right -/
def invOK (σ : l2_m) (q : Nat) (p : Int) : Prop := ∀ x : Int, 0 < x → x < p → 0 < σ (q + 1) x ∧ σ (q + 1) x < p ∧ x * σ (q + 1) x % p = 1
theorem c4 {B : va_E} {σ : l2_m} {K : Int → l2_m → Prop} {o : Nat} {W f : Int → Int} {p : Int} (ho : isP o) (hp : σ 34 0 = p) (p2 : 2 ≤ p) (p97 : p ≤ 97) (hv : invOK σ 34 p) (hf : PR σ o W f) (rf : ∀ k : Int, 0 ≤ k → k < 4096 → 0 ≤ f k ∧ f k < p) (h : ∀ τ : l2_m, frP o σ τ → (σ o 2 = 0 → PR τ o W f) → (∀ c : Int, 0 < σ o 2 → c = σ 35 (σ (o + 2) 0) → PR τ o W (fun k => f k * c % p)) → K 0 τ) : wC B 4 [vr 38, vr o] σ K := by
  have obig := isP_big ho
  have hf' := hf
  obtain ⟨h1, h2, h3, h4, h5⟩ := hf
  refine o4 ho ?_
  unfold w4
  rw [hp]
  have hl : 0 ≤ (if 0 < σ o 2 then σ (o + 2) 0 else 0) ∧ (if 0 < σ o 2 then σ (o + 2) 0 else 0) < p := by
    split
    · rename_i hc
      obtain ⟨k, k1, k2, k3, k4, k5⟩ := h3 0 (by omega) hc
      rw [k4]; exact rf k k1 k2
    · omega
  refine ⟨⟨⟨by omega, by omega⟩, by omega, p97, ⟨by omega, by omega⟩⟩, ?_⟩
  intro c hc
  have hcv : 0 ≤ c ∧ c < p ∧ (0 < σ o 2 → c = σ 35 (σ (o + 2) 0) ∧ 0 < c ∧ σ (o + 2) 0 * c % p = 1) := by
    rw [hc]
    unfold invO
    rw [hp]
    by_cases h0 : 0 < σ o 2
    · simp only [if_pos h0] at hl ⊢
      obtain ⟨k, k1, k2, k3, k4, k5⟩ := h3 0 (by omega) h0
      have := rf k k1 k2
      rw [k4] at hl ⊢
      have hv' := hv (f k) (by omega) (by omega)
      rw [if_pos ⟨by omega, by omega⟩]
      exact ⟨by omega, hv'.2.1, fun _ => ⟨rfl, hv'.1, hv'.2.2⟩⟩
    · simp only [if_neg h0]
      rw [if_neg (by omega)]
      exact ⟨by omega, by omega, fun z => by omega⟩
  clear hc
  unfold w4_14
  refine lz2_inv (fun (x : Int) τ => 0 ≤ x ∧ x ≤ σ o 2 ∧ (∀ b j, b ≠ o + 2 → τ b j = σ b j) ∧ (∀ j : Int, 0 ≤ j → j < x → τ (o + 2) j = σ (o + 2) j * c % p) ∧ (∀ j : Int, x ≤ j → τ (o + 2) j = σ (o + 2) j)) (fun x _ => σ o 2 - x) ?_ ⟨by omega, h1, fun b j _ => rfl, fun j a b => by omega, fun j _ => rfl⟩
  rintro X x τ hX ⟨i1, i2, i3, i4, i5⟩
  have t0 : τ o 2 = σ o 2 := i3 o 2 (by omega)
  have tp : τ 34 0 = p := by rw [← hp]; exact i3 34 0 (by omega)
  rw [t0, tp]
  refine ⟨⟨⟨by omega, by omega⟩, ⟨by omega, by omega⟩⟩, ?_⟩
  split
  · rename_i hx
    obtain ⟨k, k1, k2, k3, k4, k5⟩ := h3 x i1 hx
    have hr := rf k k1 k2
    rw [i5 x (Int.le_refl x)]
    have hm := mul_b (a := σ (o + 2) x) (b := c) (m := 97) (n := 97) (by rw [k4]; omega) (by rw [k4]; omega) hcv.1 (by omega)
    refine ⟨⟨i1, by omega, p2, p97, ⟨by omega, by omega⟩⟩, ?_⟩
    intro τ1 et
    have ta : ∀ b j, τ1 b j = if b = o + 2 ∧ j = x then σ (o + 2) x * c % p else τ b j := fun b j => by rw [et]; rfl
    refine hX _ _ ⟨by omega, by omega, fun b j hb => ?_, fun j a b => ?_, fun j a => ?_⟩ (by omega)
    · rw [ta, if_neg (fun z => hb z.1)]; exact i3 b j hb
    · rw [ta]
      by_cases hj : j = x
      · rw [if_pos ⟨rfl, hj⟩, hj]
      · rw [if_neg (fun z => hj z.2)]; exact i4 j a (by omega)
    · rw [ta, if_neg (by omega)]; exact i5 j (by omega)
  · rename_i hx
    have ex : x = σ o 2 := by omega
    refine h τ (fun b j _ hb => i3 b j hb) (fun hz => ?_) (fun d hd hdc => ?_)
    · exact PR_congr hf' t0 (fun i a b => by omega) (fun i a b => by omega)
    · have hdd : d = c := by rw [hdc]; exact (hcv.2.2 hd).1.symm
      subst hdd
      obtain ⟨-, c1, c2⟩ := hcv.2.2 hd
      have nz : ∀ k : Int, 0 ≤ k → k < 4096 → (f k * d % p ≠ 0 ↔ f k ≠ 0) := by
        intro k k0 k1
        refine ⟨fun z y => z (by rw [y, Int.zero_mul, Int.zero_emod]), fun z y => z ?_⟩
        have hr := rf k k0 k1
        have := mod_cancel c2 p2 y
        rwa [emod_self_lt hr.1 hr.2] at this
      unfold PR
      rw [t0]
      refine ⟨h1, h2, fun i a b => ?_, fun i j a b e => ?_, fun k k0 k1 k2 => ?_⟩
      · obtain ⟨k, k1, k2, k3, k4, k5⟩ := h3 i a b
        refine ⟨k, k1, k2, ?_, ?_, (nz k k1 k2).mpr k5⟩
        · rw [i3 _ _ (by omega)]; exact k3
        · rw [i4 i a (by omega), k4]
      · rw [i3 _ _ (by omega), i3 _ _ (by omega)]; exact h4 i j a b e
      · obtain ⟨i, g1, g2, g3⟩ := h5 k k0 k1 ((nz k k0 k1).mp k2)
        exact ⟨i, g1, g2, by rw [i3 _ _ (by omega)]; exact g3⟩
