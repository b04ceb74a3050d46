/-! ===== values ===== -/
def tv (p a b c k x : Int) : Int := ((x * pw p a (e4 k 0)) % p * pw p b (e4 k 1)) % p * pw p c (e4 k 2) % p
theorem tv_0 (p a b c k : Int) : tv p a b c k 0 = 0 := by unfold tv; rw [Int.zero_mul, Int.zero_emod, Int.zero_mul, Int.zero_emod, Int.zero_mul, Int.zero_emod]
theorem tv_b {p : Int} (p2 : 2 ≤ p) (a b c k x : Int) : 0 ≤ tv p a b c k x ∧ tv p a b c k x < p := ⟨Int.emod_nonneg _ (by omega), Int.emod_lt_of_pos _ (by omega)⟩
def valF (p : Int) (f : Int → Int) (a b c : Int) : Int := sumN (fun k => tv p a b c k (f k)) 4096 % p
theorem cnt_mono (f : Int → Int) {x y : Int} (x0 : 0 ≤ x) (h : x ≤ y) : cnt f x ≤ cnt f y := by
  obtain ⟨n, rfl⟩ : ∃ n : Nat, y = x + n := ⟨(y - x).toNat, by omega⟩
  clear h
  induction n with
  | zero => rw [show x + ((0 : Nat) : Int) = x by omega]; exact Int.le_refl _
  | succ n ih =>
    have e : x + ((n + 1 : Nat) : Int) = (x + n) + 1 := by omega
    rw [e, cnt_step (by omega)]
    split <;> omega
section VAL
variable {B : va_E} {σ : l2_m} {K : Int → l2_m → Prop}
theorem c13 {o : Nat} {W f : Int → Int} {p a b c : Int} (ho : isP o) (hW : okW W) (hp : σ 34 0 = p) (p2 : 2 ≤ p) (p97 : p ≤ 97) (hf : PR σ o W f) (rf : ∀ k : Int, 0 ≤ k → k < 4096 → 0 ≤ f k ∧ f k < p) (a0 : 0 ≤ a) (a1 : a < p) (b0 : 0 ≤ b) (b1 : b < p) (cc0 : 0 ≤ c) (cc1 : c < p) (h : K (valF p f a b c) σ) : wC B 13 [vr 38, vr o, vi a, vi b, vi c] σ K := by
  have hf' := hf
  obtain ⟨h1, h2, h3, h4, h5⟩ := hf
  refine o13 ho ?_
  unfold w13 w13_6
  rw [hp]
  refine lz2_inv (fun (s i : Int) => 0 ≤ i ∧ i ≤ σ o 2 ∧ s = sumN (fun j => tv p a b c (kom (σ (o + 1) j)) (σ (o + 2) j)) i.toNat) (fun _ i => σ o 2 - i) ?_ ⟨by omega, h1, rfl⟩
  rintro X s i hX ⟨i1, i2, i3⟩
  have sb : 0 ≤ s ∧ s ≤ 97 * (i.toNat : Int) := by
    rw [i3]
    exact ⟨sumN_nonneg (fun j _ _ => (tv_b p2 a b c _ _).1), sumN_bound (fun j _ _ => by have := tv_b p2 a b c (kom (σ (o + 1) j)) (σ (o + 2) j); omega)⟩
  refine ⟨⟨⟨by omega, by omega⟩, ⟨by omega, by omega⟩⟩, ?_⟩
  split
  · rename_i hi
    obtain ⟨k, k0, k1, k2, k3, k4⟩ := h3 i i1 hi
    have rk' := rf k k0 k1
    refine ⟨⟨i1, by omega⟩, ?_⟩
    intro m hm
    rw [k2] at hm
    rw [hm, (MW_e W k).1, (MW_e W k).2.1, (MW_e W k).2.2, k3]
    have e0 := e4_b k 0
    have e1 := e4_b k 1
    have e2 := e4_b k 2
    have pa := pw_b (v := a) p2 (e4 k 0)
    have pb := pw_b (v := b) p2 (e4 k 1)
    have pc := pw_b (v := c) p2 (e4 k 2)
    refine ⟨⟨MW_rg hW k, p2, p97, a0, a1, e0.1, by omega⟩, ?_⟩
    intro x hx
    have m1 := mul_b (a := f k) (b := pw p a (e4 k 0)) (m := 97) (n := 97) (by omega) (by omega) pa.1 (by omega)
    refine ⟨⟨⟨by omega, by omega⟩, b0, b1, e1.1, by omega⟩, ?_⟩
    intro y hy
    have x0 : 0 ≤ x % p := Int.emod_nonneg _ (by omega)
    have x1 : x % p < p := Int.emod_lt_of_pos _ (by omega)
    have m2 := mul_b (a := x % p) (b := pw p b (e4 k 1)) (m := 97) (n := 97) x0 (by omega) pb.1 (by omega)
    refine ⟨⟨⟨by omega, by omega⟩, cc0, cc1, e2.1, by omega⟩, ?_⟩
    intro z hz
    have y0 : 0 ≤ y % p := Int.emod_nonneg _ (by omega)
    have y1 : y % p < p := Int.emod_lt_of_pos _ (by omega)
    have m3 := mul_b (a := y % p) (b := pw p c (e4 k 2)) (m := 97) (n := 97) y0 (by omega) pc.1 (by omega)
    refine ⟨⟨by omega, by omega⟩, ?_⟩
    intro s' hs'
    refine hX _ _ ⟨by omega, by omega, ?_⟩ (by omega)
    rw [sumN_step i1, ← i3, hs', k2, k3, kom_MW k0 k1]
    unfold tv
    rw [hz, hy, hx]
  · rename_i hi
    have ei : i = σ o 2 := by omega
    refine ⟨⟨p2, p97, ⟨by omega, by omega⟩⟩, ?_⟩
    have e := PR_sum hf' (fun k x => tv p a b c k x) (fun k => tv_0 p a b c k)
    rw [i3, ei, e]
    exact h
/-- the keys of a register's terms are laid -/
def keysOK (σ : l2_m) (r : Int) : Prop := 0 ≤ σ 186 27 ∧ σ 186 27 ≤ 60 ∧ (∀ i : Int, 0 ≤ i → i < σ 186 27 → 0 ≤ σ 191 i ∧ σ 191 i < 4096) ∧ (∀ i j : Int, 0 ≤ i → i < j → j < σ 186 27 → σ 191 i ≠ σ 191 j) ∧ (∀ k : Int, 0 ≤ k → k < 4096 → regR σ r k ≠ 0 → ∃ i : Int, 0 ≤ i ∧ i < σ 186 27 ∧ σ 191 i = k)
theorem r214 {p r : Int} (r0 : 0 ≤ r) (r1 : r < 8) (p97 : p ≤ 97) (hr : rngR σ p) (h60 : cnt (regR σ r) 4096 ≤ 60) (h : ∀ τ : l2_m, (∀ b j, b ≠ 191 → ¬ (b = 186 ∧ j = 27) → τ b j = σ b j) → keysOK τ r → K 0 τ) : wC B 214 [vr 186, vi r] σ K := by
  refine o214 ?_
  unfold w214
  intro σ1 e1
  have a1 : ∀ b j, σ1 b j = if b = 186 ∧ j = 27 then 0 else σ b j := fun b j => by rw [e1]; rfl
  unfold w214_7
  refine lz2_inv (fun (x : Int) τ => 0 ≤ x ∧ x ≤ 4096 ∧ (∀ b j, b ≠ 191 → ¬ (b = 186 ∧ j = 27) → τ b j = σ b j) ∧ τ 186 27 = cnt (regR σ r) x ∧ (∀ i : Int, 0 ≤ i → i < τ 186 27 → 0 ≤ τ 191 i ∧ τ 191 i < x) ∧ (∀ i j : Int, 0 ≤ i → i < j → j < τ 186 27 → τ 191 i ≠ τ 191 j) ∧ (∀ k : Int, 0 ≤ k → k < x → regR σ r k ≠ 0 → ∃ i : Int, 0 ≤ i ∧ i < τ 186 27 ∧ τ 191 i = k)) (fun x _ => 4096 - x) ?_ ?_
  · rintro X x τ hX ⟨i1, i2, i3, i4, i5, i6, i7⟩
    have cx := cnt_bi (regR σ r) (n := x) i1
    refine ⟨⟨by omega, by omega⟩, ?_⟩
    split
    · rename_i hx
      have e187 : τ 187 (4096 * r + x) = regR σ r x := i3 187 _ (by decide) (by omega)
      have rx : 0 ≤ regR σ r x ∧ regR σ r x < p := hr r x r0 r1 i1 hx
      rw [e187]
      refine ⟨⟨r0, r1, i1, hx, ⟨by omega, by omega⟩⟩, ?_⟩
      split
      · rename_i hz
        refine hX _ _ ⟨by omega, by omega, i3, by rw [cnt_step i1, if_pos hz, Int.add_zero]; exact i4, fun i a b => by have := i5 i a b; omega, i6, fun k a b c => ?_⟩ (by omega)
        by_cases hk : k = x
        · rw [hk] at c; exact absurd hz c
        · exact i7 k a (by omega) c
      · rename_i hz
        have cs := cnt_step (f := regR σ r) i1
        rw [if_neg hz] at cs
        have cm := cnt_mono (regR σ r) (x := x + 1) (y := 4096) (by omega) (by omega)
        refine ⟨⟨by omega, by omega⟩, ?_⟩
        intro τ1 et1 τ2 et2
        have b2 : ∀ b j, τ2 b j = if b = 186 ∧ j = 27 then τ 186 27 + 1 else if b = 191 ∧ j = τ 186 27 then x else τ b j := fun b j => by
          have q : τ1 186 27 = τ 186 27 := by rw [et1]; exact l2_u_ne (by decide)
          rw [et2, q, et1]; rfl
        have w27 : τ2 186 27 = τ 186 27 + 1 := by rw [b2, if_pos ⟨rfl, rfl⟩]
        have w191 : ∀ j, τ2 191 j = if j = τ 186 27 then x else τ 191 j := fun j => by
          rw [b2, if_neg (by omega)]
          by_cases hj : j = τ 186 27
          · rw [if_pos ⟨rfl, hj⟩, if_pos hj]
          · rw [if_neg (fun z => hj z.2), if_neg hj]
        refine hX _ _ ⟨by omega, by omega, fun b j z w => ?_, by omega, fun i a b => ?_, fun i j a b c => ?_, fun k a b c => ?_⟩ (by omega)
        · rw [b2, if_neg w, if_neg (fun q => z q.1)]; exact i3 b j z w
        · rw [w191]
          by_cases hi : i = τ 186 27
          · rw [if_pos hi]; omega
          · rw [if_neg hi]; have := i5 i a (by omega); omega
        · rw [w191 i, w191 j, if_neg (show ¬ i = τ 186 27 by omega)]
          by_cases hj : j = τ 186 27
          · rw [if_pos hj]; have := i5 i a (by omega); omega
          · rw [if_neg hj]; exact i6 i j a b (by omega)
        · by_cases hk : k = x
          · exact ⟨τ 186 27, by omega, by omega, by rw [w191, if_pos rfl, hk]⟩
          · obtain ⟨i, x0, x1, x2⟩ := i7 k a (by omega) c
            exact ⟨i, x0, by omega, by rw [w191, if_neg (by omega)]; exact x2⟩
    · rename_i hx
      have ex : x = 4096 := by omega
      subst ex
      have eR : regR τ r = regR σ r := funext (fun k => i3 187 _ (by decide) (by omega))
      refine h τ i3 ⟨by omega, by omega, i5, i6, ?_⟩
      rw [eR]
      exact i7
  · have z : σ1 186 27 = 0 := by rw [a1, if_pos ⟨rfl, rfl⟩]
    exact ⟨by omega, by omega, fun b j _ w => by rw [a1, if_neg w], by rw [cnt_0]; exact z, fun i a b => by omega, fun i j a b c => by omega, fun k a b => by omega⟩
theorem r215 {p r a b c : Int} (hp : σ 186 5 = p) (p2 : 2 ≤ p) (p97 : p ≤ 97) (r0 : 0 ≤ r) (r1 : r < 8) (hr : rngR σ p) (hk : keysOK σ r) (a0 : 0 ≤ a) (a1 : a < p) (b0 : 0 ≤ b) (b1 : b < p) (cc0 : 0 ≤ c) (cc1 : c < p) (h : K (valF p (regR σ r) a b c) σ) : wC B 215 [vr 186, vi r, vi a, vi b, vi c] σ K := by
  obtain ⟨h1, h2, h3, h4, h5⟩ := hk
  refine o215 ?_
  unfold w215 w215_6
  rw [hp]
  refine lz2_inv (fun (s i : Int) => 0 ≤ i ∧ i ≤ σ 186 27 ∧ s = sumN (fun j => tv p a b c (σ 191 j) (regR σ r (σ 191 j))) i.toNat % p) (fun _ i => σ 186 27 - i) ?_ ⟨by omega, h1, (Int.zero_emod p).symm⟩
  rintro X s i hX ⟨i1, i2, i3⟩
  have sb : 0 ≤ s ∧ s < p := by rw [i3]; exact ⟨Int.emod_nonneg _ (by omega), Int.emod_lt_of_pos _ (by omega)⟩
  refine ⟨⟨⟨by omega, by omega⟩, ⟨by omega, by omega⟩⟩, ?_⟩
  split
  · rename_i hi
    refine ⟨⟨i1, by omega⟩, ?_⟩
    intro k hk
    have kb := h3 i i1 hi
    rw [← hk] at kb
    have rk' : 0 ≤ regR σ r k ∧ regR σ r k < p := hr r k r0 r1 kb.1 kb.2
    have er : σ 187 (4096 * r + k) = regR σ r k := rfl
    rw [er]
    have e0 := e4_b k 0
    have e1 := e4_b k 1
    have e2 := e4_b k 2
    have pa := pw_b (v := a) p2 (e4 k 0)
    have pb := pw_b (v := b) p2 (e4 k 1)
    have pc := pw_b (v := c) p2 (e4 k 2)
    have m1 := mul_b (a := regR σ r k) (b := pw p a (e4 k 0)) (m := 97) (n := 97) (by omega) (by omega) pa.1 (by omega)
    obtain ⟨x, hx⟩ : ∃ x, x = regR σ r k * pw p a (e4 k 0) := ⟨_, rfl⟩
    have x0 : 0 ≤ x % p := Int.emod_nonneg _ (by omega)
    have x1 : x % p < p := Int.emod_lt_of_pos _ (by omega)
    have m2 := mul_b (a := x % p) (b := pw p b (e4 k 1)) (m := 97) (n := 97) x0 (by omega) pb.1 (by omega)
    obtain ⟨y, hy⟩ : ∃ y, y = x % p * pw p b (e4 k 1) := ⟨_, rfl⟩
    have y0 : 0 ≤ y % p := Int.emod_nonneg _ (by omega)
    have y1 : y % p < p := Int.emod_lt_of_pos _ (by omega)
    have m3 := mul_b (a := y % p) (b := pw p c (e4 k 2)) (m := 97) (n := 97) y0 (by omega) pc.1 (by omega)
    have tb := tv_b p2 a b c k (regR σ r k)
    have te : tv p a b c k (regR σ r k) = (y % p * pw p c (e4 k 2)) % p := by unfold tv; rw [hy, hx]
    rw [← hx, ← hy]
    refine ⟨⟨r0, r1, kb.1, kb.2, ⟨by omega, by omega⟩, p2, p97, a0, a1, e0.1, by omega, ⟨by omega, by omega⟩, ⟨by omega, by omega⟩, by omega, by omega, b0, b1, e1.1, by omega, ⟨by omega, by omega⟩, by omega, cc0, cc1, e2.1, by omega, ⟨by omega, by omega⟩, by omega⟩, ?_⟩
    intro z hz
    rw [← te] at hz
    refine ⟨⟨⟨by omega, by omega⟩, by omega⟩, ?_⟩
    intro s' hs'
    refine hX _ _ ⟨by omega, by omega, ?_⟩ (by omega)
    rw [sumN_step i1, hs', i3, hz, ← hk]
    rw [Int.add_emod, Int.emod_emod, ← Int.add_emod]
  · rename_i hi
    have ei : i = σ 186 27 := by omega
    have e := sum_re (cN := 4096) (fun i => σ 191 i) (σ 186 27).toNat (regR σ r) (fun k x => tv p a b c k x) (fun i x y => by have := h3 i x (by omega); exact this) (fun i j x y z => h4 i j x y (by omega)) (fun k x y z => by obtain ⟨i, q0, q1, q2⟩ := h5 k x (by omega) z; exact ⟨i, q0, by omega, q2⟩) (fun k => tv_0 p a b c k)
    rw [i3, ei, e]
    exact h
end VAL
