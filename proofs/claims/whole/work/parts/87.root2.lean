theorem pwr_0 (v : Int) : pwr v 0 = 1 := Int.pow_zero v
theorem pwr_s {v e : Int} (h : 0 ≤ e) : pwr v (e + 1) = pwr v e * v := by
  unfold pwr
  have : (e + 1).toNat = e.toNat + 1 := by omega
  rw [this, Int.pow_succ]
section RT2
variable {B : va_E} {σ : l2_m} {K : Int → l2_m → Prop}
theorem c18 {p n : Int} (hp : σ 34 0 = p) (p2 : 2 ≤ p) (p97 : p ≤ 97) (n0 : 0 ≤ n) (n1 : n ≤ p) (hr : ∀ e : Int, 0 ≤ e → e < 16 → 0 ≤ σ 48 e ∧ σ 48 e < p) (h : K (sumN (fun c => if sumN (fun e => σ 48 e * pwr c e) 16 % p = 0 then 1 else 0) n.toNat) σ) : wC B 18 [vr 38, vi n] σ K := by
  refine o18 ?_
  unfold w18 w18_3
  refine lz1_inv (fun (t : Int) => 0 ≤ t ∧ t < 16 ∧ ∀ j : Int, t < j → j < 16 → σ 48 j = 0) (fun t => t) ?_ ⟨by omega, by omega, fun j a b => by omega⟩
  rintro X t hX ⟨t0, t1, t2⟩
  refine ⟨⟨by omega, by omega⟩, fun _ => ⟨t0, t1, by have := hr t t0 t1; exact ⟨by omega, by omega⟩⟩, ?_⟩
  split
  · rename_i hc
    refine hX _ ⟨by omega, by omega, fun j a b => ?_⟩ (by omega)
    by_cases hj : j = t
    · rw [hj]; exact hc.2
    · exact t2 j (by omega) b
  · clear hX X
    have full : ∀ c : Int, sumN (fun e => σ 48 e * pwr c e) 16 = sumN (fun e => σ 48 e * pwr c e) (t + 1).toNat := by
      intro c
      have key : ∀ m : Nat, t + 1 + m ≤ 16 → sumN (fun e => σ 48 e * pwr c e) (t + 1 + m).toNat = sumN (fun e => σ 48 e * pwr c e) (t + 1).toNat := by
        intro m
        induction m with
        | zero => intro _; rw [show t + 1 + ((0 : Nat) : Int) = t + 1 by omega]
        | succ m ih =>
          intro hm
          have e : t + 1 + ((m + 1 : Nat) : Int) = (t + 1 + m) + 1 := by omega
          rw [e, sumN_step (by omega), ih (by omega), t2 _ (by omega) (by omega), Int.zero_mul, Int.add_zero]
      have := key (15 - t).toNat (by omega)
      rw [← this]
      congr 1
      omega
    unfold w18_27
    refine lz2_inv (fun (s c : Int) => 0 ≤ c ∧ c ≤ n ∧ s = sumN (fun c => if sumN (fun e => σ 48 e * pwr c e) 16 % p = 0 then 1 else 0) c.toNat) (fun _ c => n - c) ?_ ⟨by omega, n0, rfl⟩
    rintro X s c hX ⟨c0, c1', c2'⟩
    refine ⟨⟨⟨by omega, by omega⟩, ⟨by omega, by omega⟩⟩, ?_⟩
    split
    · rename_i hc
      unfold w18_39
      rw [hp]
      refine lz2_inv (fun (v e : Int) => -1 ≤ e ∧ e ≤ t ∧ 0 ≤ v ∧ v < p ∧ (v * pwr c (e + 1) + sumN (fun j => σ 48 j * pwr c j) (e + 1).toNat) % p = sumN (fun e => σ 48 e * pwr c e) 16 % p) (fun _ e => e + 1) ?_ ⟨by omega, by omega, by omega, by omega, by rw [Int.zero_mul, Int.zero_add, full c]⟩
      rintro Y v e hY ⟨e0, e1, v0, v1, v2⟩
      refine ⟨⟨by omega, by omega⟩, ?_⟩
      split
      · rename_i he
        have ee : e = -1 := by omega
        subst ee
        rw [show (-1 : Int) + 1 = 0 by omega, pwr_0, Int.mul_one] at v2
        have v3 : v % p = sumN (fun e => σ 48 e * pwr c e) 16 % p := by rw [← v2]; show v % p = (v + 0) % p; rw [Int.add_zero]
        rw [Int.emod_eq_of_lt v0 v1] at v3
        refine ⟨⟨by omega, by omega⟩, ?_⟩
        split
        · rename_i hz
          intro s' hs'
          refine hX _ _ ⟨by omega, by omega, ?_⟩ (by omega)
          rw [sumN_step c0, ← c2', hs', if_pos (by omega)]
        · rename_i hz
          intro s' hs'
          refine hX _ _ ⟨by omega, by omega, ?_⟩ (by omega)
          rw [sumN_step c0, ← c2', hs', if_neg (by omega)]
      · rename_i he
        have rE := hr e (by omega) (by omega)
        have m1 := mul_b (a := v) (b := c) (m := 97) (n := 97) v0 (by omega) c0 (by omega)
        refine ⟨⟨by omega, by omega, p2, p97, ⟨by omega, by omega⟩⟩, ?_⟩
        intro v' hv'
        refine hY _ _ ⟨by omega, by omega, by rw [hv']; exact Int.emod_nonneg _ (by omega), by rw [hv']; exact Int.emod_lt_of_pos _ (by omega), ?_⟩ (by omega)
        rw [show e + -1 + 1 = e by omega, ← v2]
        have q1 : v' * pwr c e % p = (v * c + σ 48 e) * pwr c e % p := md_mul (by rw [hv', md_md]) rfl
        rw [md_add q1 rfl, pwr_s (by omega), sumN_step (by omega)]
        congr 1
        grind
    · rename_i hc
      have : c = n := by omega
      rw [c2', this]
      exact h
/-- the unknowns that occur -/
def occ (f : Int → Int) (u : Int) : Prop := ∃ k : Int, 0 ≤ k ∧ k < 4096 ∧ f k ≠ 0 ∧ 0 < e4 k u
theorem c15 {o : Nat} {W f : Int → Int} (ho : isP o) (hob : 48 < o) (hW : okW W) (hf : PR σ o W f) (h : ∀ (τ : l2_m) (n t0 t1 t2 : Int), (∀ b j, b ≠ 45 → τ b j = σ b j) → τ 45 0 = t0 → τ 45 1 = t1 → τ 45 2 = t2 → 0 ≤ t0 → t0 < 3 → 0 ≤ t1 → t1 < 3 → ¬ t0 = t1 → t2 = 3 - t0 - t1 → 0 ≤ n → n ≤ 3 → (0 < n ↔ occ f t0) → (1 < n ↔ occ f t1) → (2 < n ↔ occ f t2) → K n τ) : wC B 15 [vr 38, vr o] σ K := by
  refine o15 ho ?_
  unfold w15 w15_7
  refine lz4_inv (fun (n m u : Int) τ => 0 ≤ n ∧ 0 ≤ u ∧ u ≤ 3 ∧ m = 2 - (u - n) ∧ n ≤ u ∧ (∀ b j, b ≠ 45 → τ b j = σ b j) ∧ (∀ i : Int, 0 ≤ i → i < n → 0 ≤ τ 45 i ∧ τ 45 i < u ∧ occ f (τ 45 i)) ∧ (∀ i : Int, m < i → i < 3 → 0 ≤ τ 45 i ∧ τ 45 i < u ∧ ¬ occ f (τ 45 i)) ∧ (∀ i j : Int, 0 ≤ i → i < j → j < n → τ 45 i ≠ τ 45 j) ∧ (∀ i j : Int, m < i → i < j → j < 3 → τ 45 i ≠ τ 45 j)) (fun _ _ u _ => 3 - u) ?_ ⟨by omega, by omega, by omega, by omega, by omega, fun b j _ => rfl, fun i a b => by omega, fun i a b => by omega, fun i j a b c => by omega, fun i j a b c => by omega⟩
  rintro X n m u τ hX ⟨i1, i2, i3, i4, i5, i6, i7, i8, i9, i10⟩
  refine ⟨⟨by omega, by omega⟩, ?_⟩
  split
  · rename_i hu
    have hf1 : PR τ o W f := PR_congr hf (i6 _ _ (by omega)) (fun j _ _ => i6 _ _ (by omega)) (fun j _ _ => i6 _ _ (by omega))
    refine c89 ho hW hf1 i2 hu (fun hoc => ?_) (fun hno => ?_)
    · refine ⟨by decide, ?_⟩
      rw [if_neg (by decide)]
      refine ⟨⟨i1, by omega⟩, ?_⟩
      intro τ1 et
      have b1 : ∀ b j, τ1 b j = if b = 45 ∧ j = n then u else τ b j := fun b j => by rw [et]; rfl
      refine hX _ _ _ _ ⟨by omega, by omega, by omega, by omega, by omega, fun b j z => by rw [b1, if_neg (fun w => z w.1)]; exact i6 b j z, fun i a b => ?_, fun i a b => ?_, fun i j a b c => ?_, fun i j a b c => ?_⟩ (by omega)
      · rw [b1]
        by_cases hi : i = n
        · rw [if_pos ⟨rfl, hi⟩]; exact ⟨i2, by omega, hoc⟩
        · rw [if_neg (fun z => hi z.2)]
          obtain ⟨q0, q1, q2⟩ := i7 i a (by omega)
          exact ⟨q0, by omega, q2⟩
      · rw [b1, if_neg (by omega)]
        obtain ⟨q0, q1, q2⟩ := i8 i a b
        exact ⟨q0, by omega, q2⟩
      · rw [b1 45 i, b1 45 j, if_neg (by omega)]
        by_cases hj : j = n
        · rw [if_pos ⟨rfl, hj⟩]; have := i7 i a (by omega); omega
        · rw [if_neg (fun z => hj z.2)]; exact i9 i j a b (by omega)
      · rw [b1 45 i, b1 45 j, if_neg (by omega), if_neg (by omega)]; exact i10 i j a b c
    · refine ⟨by decide, ?_⟩
      rw [if_pos rfl]
      refine ⟨⟨by omega, by omega⟩, ?_⟩
      rw [if_neg (by omega)]
      refine ⟨⟨by omega, by omega⟩, ?_⟩
      intro τ1 et
      have b1 : ∀ b j, τ1 b j = if b = 45 ∧ j = m then u else τ b j := fun b j => by rw [et]; rfl
      have hno' : ¬ occ f u := by
        rintro ⟨k, k0, k1, k2, k3⟩
        have := hno k k0 k1 k2
        omega
      refine hX _ _ _ _ ⟨by omega, by omega, by omega, by omega, by omega, fun b j z => by rw [b1, if_neg (fun w => z w.1)]; exact i6 b j z, fun i a b => ?_, fun i a b => ?_, fun i j a b c => ?_, fun i j a b c => ?_⟩ (by omega)
      · rw [b1, if_neg (by omega)]
        obtain ⟨q0, q1, q2⟩ := i7 i a b
        exact ⟨q0, by omega, q2⟩
      · rw [b1]
        by_cases hi : i = m
        · rw [if_pos ⟨rfl, hi⟩]; exact ⟨i2, by omega, hno'⟩
        · rw [if_neg (fun z => hi z.2)]
          obtain ⟨q0, q1, q2⟩ := i8 i (by omega) b
          exact ⟨q0, by omega, q2⟩
      · rw [b1 45 i, b1 45 j, if_neg (by omega), if_neg (by omega)]; exact i9 i j a b c
      · rw [b1 45 i, b1 45 j, if_neg (show ¬ (45 = 45 ∧ j = m) by omega)]
        by_cases hi : i = m
        · rw [if_pos ⟨rfl, hi⟩]; have := i8 j (by omega) c; omega
        · rw [if_neg (fun z => hi z.2)]; exact i10 i j (by omega) b c
  · rename_i hu
    have eu : u = 3 := by omega
    subst eu
    have all : ∀ i : Int, 0 ≤ i → i < 3 → 0 ≤ τ 45 i ∧ τ 45 i < 3 ∧ (i < n ↔ occ f (τ 45 i)) := by
      intro i a b
      by_cases hi : i < n
      · obtain ⟨q0, q1, q2⟩ := i7 i a hi
        exact ⟨q0, q1, fun _ => q2, fun _ => hi⟩
      · obtain ⟨q0, q1, q2⟩ := i8 i (by omega) b
        exact ⟨q0, q1, fun z => absurd z hi, fun z => absurd z q2⟩
    have inj : ∀ i j : Int, 0 ≤ i → i < j → j < 3 → τ 45 i ≠ τ 45 j := by
      intro i j a b c
      by_cases hj : j < n
      · exact i9 i j a b hj
      · by_cases hi : i < n
        · intro z
          have q1 := (i7 i a hi).2.2
          have q2 := (i8 j (by omega) c).2.2
          rw [z] at q1
          exact q2 q1
        · exact i10 i j (by omega) b c
    have w0 := all 0 (by decide) (by decide)
    have w1 := all 1 (by decide) (by decide)
    have w2 := all 2 (by decide) (by decide)
    have v01 := inj 0 1 (by decide) (by decide) (by decide)
    have v02 := inj 0 2 (by decide) (by decide) (by decide)
    have v12 := inj 1 2 (by decide) (by decide) (by decide)
    exact h τ n _ _ _ i6 rfl rfl rfl w0.1 w0.2.1 w1.1 w1.2.1 v01 (by omega) i1 i5 w0.2.2 w1.2.2 w2.2.2
end RT2
