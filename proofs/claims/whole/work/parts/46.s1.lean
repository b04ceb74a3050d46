/-! ===== summaries, the second level ===== -/
section S1
variable {B : va_E} {σ : l2_m} {K : Int → l2_m → Prop}
theorem s155 {m : Int} (h1 : rg m) (h : K ((e5 m 0 + e5 m 1) + e5 m 2) σ) : wC B 155 [vi m] σ K := o155 ⟨h1, h⟩
theorem s79 {o : Nat} {m : Int} (ho : isO o) (h1 : rg m) (h : K ((e5 m 0 * σ (o + 1) 0 + e5 m 1 * σ (o + 1) 1) + e5 m 2 * σ (o + 1) 2) σ) : wC B 79 [vr o, vi m] σ K := o79 ho ⟨h1, h⟩
abbrev isOr (h f s : Int) : Prop := (0 ≤ h ∧ h < 3) ∧ (0 ≤ f ∧ f < 3) ∧ (0 ≤ s ∧ s < 3) ∧ ¬ f = s
theorem s149 {a f s : Int} (h1 : rg a) (h2 : rg f) (h3 : rg s) (h : K (b2i (isOr a f s)) σ) : wC B 149 [vi a, vi f, vi s] σ K := by
  refine o149 ?_
  unfold w149
  grind
abbrev isE3 (x y z : Int) : Prop := (0 ≤ x ∧ x < 16) ∧ (0 ≤ y ∧ y < 16) ∧ (0 ≤ z ∧ z < 16)
theorem s151 {x y z : Int} (h1 : rg x) (h2 : rg y) (h3 : rg z) (h : K (b2i (isE3 x y z)) σ) : wC B 151 [vi x, vi y, vi z] σ K := by
  refine o151 ?_
  unfold w151
  grind
theorem s12 {v e : Int} (h1 : 2 ≤ σ 34 0) (h2 : σ 34 0 ≤ 97) (h3 : 0 ≤ v) (h4 : v < σ 34 0) (h5 : 0 ≤ e) (h6 : e ≤ 100) (h : K (pw (σ 34 0) v e) σ) : wC B 12 [vr 38, vi v, vi e] σ K := by
  refine o12 ?_
  unfold w12 w12_5
  refine lz2_inv (fun x i => 0 ≤ i ∧ i ≤ e ∧ x = pw (σ 34 0) v i) (fun _ i => e - i) ?_ ⟨by omega, h5, rfl⟩
  rintro X x i hX ⟨i1, i2, rfl⟩
  refine ⟨⟨⟨by omega, by omega⟩, ⟨by omega, by omega⟩⟩, ?_⟩
  split
  · have hb := pw_b (v := v) h1 i
    have hm := mul_rg hb.1 (by omega) h3 (by omega)
    refine ⟨⟨h1, h2, ⟨by omega, by omega⟩⟩, ?_⟩
    rintro _ rfl
    exact hX _ _ ⟨by omega, by omega, (pw_step i1).symm⟩ (by omega)
  · have : i = e := by omega
    subst this
    exact h
theorem s9 {m n : Int} (h1 : rg m) (h2 : rg n) (h : K (max (e5 m 0) (e5 n 0) * σ 37 0 + max (e5 m 1) (e5 n 1) * σ 37 1 + max (e5 m 2) (e5 n 2) * σ 37 2) σ) : wC B 9 [vr 38, vi m, vi n] σ K := by
  refine o9 ?_
  unfold w9 w9_5
  refine lz2_inv (fun x i => 0 ≤ i ∧ i ≤ 3 ∧ x = sumN (fun u => max (e5 m u) (e5 n u) * σ 37 u) i.toNat) (fun _ i => 3 - i) ?_ ⟨by omega, by omega, rfl⟩
  rintro X x i hX ⟨i1, i2, rfl⟩
  refine ⟨⟨by omega, by omega⟩, ?_⟩
  split
  · refine ⟨⟨h1, i1, by omega, h2⟩, ?_⟩
    rintro _ rfl _ rfl
    exact hX _ _ ⟨by omega, by omega, (sumN_step i1).symm⟩ (by omega)
  · have : i = 3 := by omega
    subst this
    have e : sumN (fun u => max (e5 m u) (e5 n u) * σ 37 u) (Int.toNat 3) = max (e5 m 0) (e5 n 0) * σ 37 0 + max (e5 m 1) (e5 n 1) * σ 37 1 + max (e5 m 2) (e5 n 2) * σ 37 2 := by
      show 0 + _ + _ + _ = _
      rw [Int.zero_add]; rfl
    rw [e]; exact h
def fadd (z : Int) (f : Int → Int) (a b : Int) : Int := if a = z then b else if b = z then a else fmul z a (f (if b < a then b - a + z else b - a))
theorem s59 {a b : Int} (h1 : 0 ≤ a) (h2 : a ≤ σ 110 7) (h3 : 0 ≤ b) (h4 : b ≤ σ 110 7) (h5 : σ 110 7 ≤ 9408) (h6 : ∀ e : Int, 0 ≤ e → e < σ 110 7 → 0 ≤ σ 112 e ∧ σ 112 e ≤ σ 110 7) (h : K (fadd (σ 110 7) (σ 112) a b) σ) : wC B 59 [vr 110, vi a, vi b] σ K := by
  refine o59 ?_
  unfold w59 w59_16 w59_49
  unfold fadd at h
  refine ⟨⟨⟨by omega, by omega⟩, ⟨by omega, by omega⟩⟩, fun _ => ⟨by omega, by omega⟩, ?_⟩
  by_cases ha : a = σ 110 7
  · rw [if_pos (Or.inl ha), if_pos ha]
    rw [if_pos ha] at h
    exact ⟨⟨⟨by omega, by omega⟩, ⟨by omega, by omega⟩⟩, h⟩
  · by_cases hb : b = σ 110 7
    · rw [if_pos (Or.inr hb), if_neg ha]
      rw [if_neg ha, if_pos hb] at h
      exact ⟨⟨⟨by omega, by omega⟩, ⟨by omega, by omega⟩⟩, h⟩
    · rw [if_neg (by omega)]
      rw [if_neg ha, if_neg hb] at h
      by_cases hl : b < a
      · rw [if_pos hl, if_neg (by omega)]
        rw [if_pos hl] at h
        have := h6 (b - a + σ 110 7) (by omega) (by omega)
        exact ⟨⟨by omega, by omega⟩, ⟨by omega, by omega, h1, h2, this.1, this.2, by omega⟩, h⟩
      · rw [if_neg hl, if_neg (by omega)]
        rw [if_neg hl] at h
        have := h6 (b - a) (by omega) (by omega)
        exact ⟨⟨by omega, by omega⟩, ⟨by omega, by omega, h1, h2, this.1, this.2, by omega⟩, h⟩
theorem fadd_b {z a b : Int} {f : Int → Int} (h1 : 0 ≤ a) (h2 : a ≤ z) (h3 : 0 ≤ b) (h4 : b ≤ z) (h6 : ∀ e : Int, 0 ≤ e → e < z → 0 ≤ f e ∧ f e ≤ z) : 0 ≤ fadd z f a b ∧ fadd z f a b ≤ z := by
  unfold fadd
  split
  · exact ⟨h3, h4⟩
  · split
    · exact ⟨h1, h2⟩
    · refine fmul_b (by omega) h1 h2 ?_ ?_
      · split
        · exact (h6 _ (by omega) (by omega)).1
        · exact (h6 _ (by omega) (by omega)).1
      · split
        · exact (h6 _ (by omega) (by omega)).2
        · exact (h6 _ (by omega) (by omega)).2
theorem s60 {a : Int} (h1 : 0 ≤ a) (h2 : a ≤ σ 110 7) (h3 : 0 ≤ σ 110 5) (h4 : σ 110 5 ≤ σ 110 7) (h5 : σ 110 7 ≤ 10000) (h : K (fmul (σ 110 7) a (σ 110 5)) σ) : wC B 60 [vr 110, vi a] σ K := o60 ⟨⟨h1, h2, h3, h4, h5⟩, h⟩
def fnum (σ : l2_m) (a : Int) : Int := if a = σ 110 7 then 0 else if a % σ 110 6 = 0 then σ 113 (a / σ 110 6) else -1
theorem s57 {a : Int} (h1 : 0 ≤ a) (h2 : a ≤ σ 110 7) (h3 : 1 ≤ σ 110 6) (h4 : σ 110 7 < 98 * σ 110 6) (h5 : σ 110 7 ≤ 10000) (h6 : σ 110 6 ≤ 10000) (h : K (fnum σ a) σ) : wC B 57 [vr 110, vi a] σ K := by
  refine o57 ?_
  unfold w57
  unfold fnum at h
  refine ⟨⟨⟨by omega, by omega⟩, ⟨by omega, by omega⟩⟩, ?_⟩
  split
  · rename_i hc; rw [if_pos hc] at h; exact h
  · rename_i hc
    rw [if_neg hc] at h
    refine ⟨⟨by omega, by omega⟩, ?_⟩
    have e : max (σ 110 6) 1 = σ 110 6 := by omega
    rw [e]
    rintro _ rfl
    refine ⟨⟨by omega, h1⟩, ?_⟩
    rintro _ rfl
    have q0 : 0 ≤ a / σ 110 6 := Int.ediv_nonneg h1 (by omega)
    have q1 : a / σ 110 6 < 98 := Int.ediv_lt_of_lt_mul (by omega) (by omega)
    refine ⟨rg_mod _ (by omega) (by omega), fun _ => ⟨by omega, by omega⟩, ?_⟩
    split
    · rename_i hd
      rw [if_pos hd.1] at h
      exact ⟨⟨q0, q1⟩, h⟩
    · rename_i hd
      rw [if_neg (by intro z; exact hd ⟨z, by omega⟩)] at h
      exact h
theorem s172 {m : Int} (h1 : rg m) (h : K ((e4 m 0 + e4 m 1) + e4 m 2) σ) : wC B 172 [vi m] σ K := o172 ⟨h1, h⟩
theorem s197 {r : Int} (h1 : rg r) (h2 : σ 186 14 = 0 ∨ σ 186 14 = 1) (h : K (b2i (σ 186 14 = 1 ∧ 0 ≤ r ∧ r < 8)) σ) : wC B 197 [vr 186, vi r] σ K := by
  refine o197 ?_
  unfold w197
  exact ⟨⟨by omega, by omega⟩, fun _ => h1, b2i_n (by omega) h⟩
theorem b2i_c {c d : Prop} [Decidable c] [Decidable d] {K : Int → l2_m → Prop} {σ : l2_m} (e : c ↔ d) (h : K (b2i d) σ) : K (b2i c) σ := by
  have : b2i c = b2i d := by
    by_cases hd : d
    · rw [b2i, b2i, if_pos hd, if_pos (e.mpr hd)]
    · rw [b2i, b2i, if_neg hd, if_neg (fun hc => hd (e.mp hc))]
  rw [this]; exact h
theorem s198 {u : Int} (h1 : rg u) (h : K (b2i (0 ≤ u ∧ u < 3)) σ) : wC B 198 [vi u] σ K := o198 ⟨h1, b2i_c (by omega) h⟩
theorem s199 {c : Int} (h1 : rg c) (h2 : 0 ≤ σ 186 5) (h3 : σ 186 5 ≤ 97) (h : K (b2i (0 ≤ c ∧ c < σ 186 5)) σ) : wC B 199 [vr 186, vi c] σ K := o199 ⟨⟨h1, ⟨by omega, by omega⟩⟩, b2i_c (by omega) h⟩
theorem s200 {u : Int} (h1 : rg u) (h : K (b2i (0 ≤ u ∧ u < 16)) σ) : wC B 200 [vi u] σ K := o200 ⟨h1, b2i_c (by omega) h⟩
theorem s202 {r : Int} (h1 : 0 ≤ r) (h2 : r < 8) (hc : ∀ j : Int, 0 ≤ j → j < 4096 → rg (σ 187 (4096 * r + j))) (h : K (cnt (fun k => σ 187 (4096 * r + k)) 4096) σ) : wC B 202 [vr 186, vi r] σ K := by
  refine o202 ?_
  unfold w202 w202_4
  refine lz2_inv (fun x i => 0 ≤ i ∧ i ≤ 4096 ∧ x = cnt (fun k => σ 187 (4096 * r + k)) i) (fun _ i => 4096 - i) ?_ ⟨by omega, by omega, (cnt_0 _).symm⟩
  grind [cnt_step]
theorem s210 {r u : Int} (h1 : 0 ≤ r) (h2 : r < 8) (h3 : 0 ≤ u) (h4 : u < 3) (hc : ∀ j : Int, 0 ≤ j → j < 4096 → rg (σ 187 (4096 * r + j))) (h : ∀ d : Int, -2 ≤ d → d < 16 → (∀ k : Int, 0 ≤ k → k < 4096 → σ 187 (4096 * r + k) ≠ 0 → e4 k u ≤ d) → (d = -2 ∨ ∃ k : Int, 0 ≤ k ∧ k < 4096 ∧ σ 187 (4096 * r + k) ≠ 0 ∧ e4 k u = d) → K d σ) : wC B 210 [vr 186, vi r, vi u] σ K := by
  refine o210 ?_
  unfold w210 w210_6
  obtain ⟨f, hf⟩ : ∃ f : Int → Int, ∀ k, σ 187 (4096 * r + k) = f k := ⟨_, fun _ => rfl⟩
  simp only [hf] at *
  refine lz2_inv (fun d i => 0 ≤ i ∧ i ≤ 4096 ∧ -2 ≤ d ∧ d < 16 ∧ (∀ k : Int, 0 ≤ k → k < i → f k ≠ 0 → e4 k u ≤ d) ∧ (d = -2 ∨ ∃ k : Int, 0 ≤ k ∧ k < 4096 ∧ f k ≠ 0 ∧ e4 k u = d)) (fun _ i => 4096 - i) ?_ ⟨by omega, by omega, by omega, by omega, fun k h1 h2 => by omega, Or.inl rfl⟩
  rintro X d i hX ⟨i1, i2, i3, i4, i5, i6⟩
  have hb := e4_b i u
  refine ⟨⟨by omega, by omega⟩, ?_⟩
  split
  · rename_i hl
    refine ⟨⟨h1, h2, i1, hl, hc i i1 hl⟩, fun _ => ⟨h3, h4, ⟨by omega, by omega⟩⟩, ?_⟩
    split
    · rename_i hd
      refine hX _ _ ⟨by omega, by omega, i3, i4, fun k g1 g2 g3 => ?_, i6⟩ (by omega)
      by_cases hk : k = i
      · subst hk; omega
      · exact i5 k g1 (by omega) g3
    · rename_i hd
      rintro _ rfl
      refine hX _ _ ⟨by omega, by omega, by omega, by omega, fun k g1 g2 g3 => ?_, Or.inr ⟨i, i1, hl, by omega, rfl⟩⟩ (by omega)
      by_cases hk : k = i
      · subst hk; omega
      · have := i5 k g1 (by omega) g3
        omega
  · exact h d i3 i4 (fun k g1 g2 g3 => i5 k g1 (by omega) g3) i6
/-- exponents together, or -1 -/
def ksum (a b : Int) : Int := if e4 a 0 + e4 b 0 < 16 ∧ e4 a 1 + e4 b 1 < 16 ∧ e4 a 2 + e4 b 2 < 16 then e4 a 0 + e4 b 0 + 16 * (e4 a 1 + e4 b 1) + 256 * (e4 a 2 + e4 b 2) else -1
theorem s225 {a b : Int} (h1 : rg a) (h2 : rg b) (h : K (ksum a b) σ) : wC B 225 [vi a, vi b] σ K := by
  have a0 := e4_b a 0
  have a1 := e4_b a 1
  have a2 := e4_b a 2
  have b0 := e4_b b 0
  have b1 := e4_b b 1
  have b2 := e4_b b 2
  refine o225 ?_
  unfold w225 w225_4
  unfold ksum at h
  refine lz2_inv (fun x i => (i = 0 ∧ x = 0) ∨ (i = 1 ∧ x = e4 a 0 + e4 b 0 ∧ x < 16) ∨ (i = 2 ∧ x = e4 a 0 + e4 b 0 + 16 * (e4 a 1 + e4 b 1) ∧ e4 a 0 + e4 b 0 < 16 ∧ e4 a 1 + e4 b 1 < 16) ∨ (i = 3 ∧ x = e4 a 0 + e4 b 0 + 16 * (e4 a 1 + e4 b 1) + 256 * (e4 a 2 + e4 b 2) ∧ e4 a 0 + e4 b 0 < 16 ∧ e4 a 1 + e4 b 1 < 16 ∧ e4 a 2 + e4 b 2 < 16)) (fun _ i => 3 - i) ?_ (Or.inl ⟨rfl, rfl⟩)
  rintro X x i hX hI
  rcases hI with ⟨rfl, rfl⟩ | ⟨rfl, hx, hl⟩ | ⟨rfl, hx, hl1, hl2⟩ | ⟨rfl, hx, hl1, hl2, hl3⟩
  · refine ⟨by decide, ?_⟩
    rw [if_pos (by decide)]
    refine ⟨⟨h1, by omega, by omega, h2⟩, ?_⟩
    rintro _ rfl
    refine ⟨⟨by omega, by omega⟩, ?_⟩
    by_cases hc : 15 < e4 a 0 + e4 b 0
    · rw [if_pos hc]; rw [if_neg (by omega)] at h; exact h
    · rw [if_neg hc]
      have e : (e4 a 0 + e4 b 0) * 2 ^ (Int.toNat (4 * 0)) = e4 a 0 + e4 b 0 := Int.mul_one _
      rw [e]
      refine ⟨⟨by omega, by omega, by omega, by omega, by omega, by omega⟩, ?_⟩
      rintro _ rfl
      have e2 : ior 0 (e4 a 0 + e4 b 0) = e4 a 0 + e4 b 0 := by unfold ior; rw [Int.toNat_zero, Nat.zero_or, Int.toNat_of_nonneg (by omega)]
      rw [e2]
      exact hX _ _ (Or.inr (Or.inl ⟨rfl, rfl, by omega⟩)) (by decide)
  · refine ⟨by decide, ?_⟩
    rw [if_pos (by decide)]
    refine ⟨⟨h1, by omega, by omega, h2⟩, ?_⟩
    rintro _ rfl
    refine ⟨⟨by omega, by omega⟩, ?_⟩
    by_cases hc : 15 < e4 a 1 + e4 b 1
    · rw [if_pos hc]; rw [if_neg (by omega)] at h; exact h
    · rw [if_neg hc]
      have e : (e4 a 1 + e4 b 1) * 2 ^ (Int.toNat (4 * 1)) = (e4 a 1 + e4 b 1) * 16 := rfl
      rw [e]
      refine ⟨⟨by omega, by omega, by omega, by omega, by omega, by omega⟩, ?_⟩
      rintro _ rfl
      rw [ior_16 (by omega) (by omega) hl]
      exact hX _ _ (Or.inr (Or.inr (Or.inl ⟨rfl, by omega, by omega, by omega⟩))) (by decide)
  · refine ⟨by decide, ?_⟩
    rw [if_pos (by decide)]
    refine ⟨⟨h1, by omega, by omega, h2⟩, ?_⟩
    rintro _ rfl
    refine ⟨⟨by omega, by omega⟩, ?_⟩
    by_cases hc : 15 < e4 a 2 + e4 b 2
    · rw [if_pos hc]; rw [if_neg (by omega)] at h; exact h
    · rw [if_neg hc]
      have e : (e4 a 2 + e4 b 2) * 2 ^ (Int.toNat (4 * 2)) = (e4 a 2 + e4 b 2) * 256 := rfl
      rw [e]
      refine ⟨⟨by omega, by omega, by omega, by omega, by omega, by omega⟩, ?_⟩
      rintro _ rfl
      rw [ior_256 (by omega) (by omega) (by omega)]
      exact hX _ _ (Or.inr (Or.inr (Or.inr ⟨rfl, by omega, by omega, by omega, by omega⟩))) (by decide)
  · refine ⟨by decide, ?_⟩
    rw [if_neg (by decide)]
    rw [if_pos ⟨hl1, hl2, hl3⟩] at h
    rw [hx]; exact h
abbrev isUn (a b : Int) : Prop := e4 a 0 ≤ e4 b 0 ∧ e4 a 1 ≤ e4 b 1 ∧ e4 a 2 ≤ e4 b 2
theorem s228 {a b : Int} (h1 : rg a) (h2 : rg b) (h : K (b2i (isUn a b)) σ) : wC B 228 [vi a, vi b] σ K := by
  refine o228 ?_
  unfold w228 w228_2
  refine lz1_inv (fun i => i = 0 ∨ (i = 1 ∧ e4 a 0 ≤ e4 b 0) ∨ (i = 2 ∧ e4 a 0 ≤ e4 b 0 ∧ e4 a 1 ≤ e4 b 1) ∨ (i = 3 ∧ isUn a b)) (fun i => 3 - i) ?_ (Or.inl rfl)
  grind
def gon (σ : l2_m) : l2_m := l2_u (l2_u σ 128 5 ((σ 128 5 + 1) % 8)) 128 6 (min (σ 128 6 + 1) 8)
theorem s66 (h1 : 0 ≤ σ 128 5) (h2 : σ 128 5 < 8) (h3 : 0 ≤ σ 128 6) (h4 : σ 128 6 ≤ 8) (h : K 0 (gon σ)) : wC B 66 [vr 128] σ K := by
  refine o66 ?_
  refine ⟨⟨⟨by omega, by omega⟩, by omega⟩, ?_⟩
  intro σ1 e1
  have f : σ1 128 6 = σ 128 6 := by rw [e1]; exact l2_u_nj (by decide)
  rw [f]
  refine ⟨⟨by omega, by omega⟩, ?_⟩
  intro σ2 e2
  rw [e2, e1]
  exact h
def tkn (σ : l2_m) : l2_m := l2_u (l2_u σ 128 5 ((σ 128 5 + 7) % 8)) 128 6 (max (σ 128 6 - 1) 0)
theorem s67 (h1 : 0 ≤ σ 128 5) (h2 : σ 128 5 < 8) (h3 : 0 ≤ σ 128 6) (h4 : σ 128 6 ≤ 8) (h : K ((σ 128 5 + 7) % 8) (tkn σ)) : wC B 67 [vr 128] σ K := by
  refine o67 ?_
  refine ⟨⟨⟨by omega, by omega⟩, by omega⟩, ?_⟩
  have e0 : σ 128 5 + 8 - 1 = σ 128 5 + 7 := by omega
  rw [e0]
  intro σ1 e1
  have f : σ1 128 6 = σ 128 6 := by rw [e1]; exact l2_u_nj (by decide)
  rw [f]
  refine ⟨⟨by omega, by omega⟩, ?_⟩
  intro σ2 e2
  have f2 : σ2 128 5 = (σ 128 5 + 7) % 8 := by rw [e2, l2_u_nj (by decide), e1]; exact l2_u_self _ _ _ _
  rw [f2, e2, e1]
  exact h
/-- the degree in x of rows -/
def degX (f : Int → Int) : Int := top (fun i => if top (fun j => f (2304 * i + j)) 2304 = -1 then 0 else 1) 16
theorem s254 {a : Nat} (ha : l2_al a = some 36864) (hc : ∀ j : Int, 0 ≤ j → j < 36864 → rg (σ a j)) (h : K (degX (σ a)) σ) : wC B 254 [vr a] σ K := by
  refine o254 ha ?_
  unfold w254 w254_3
  refine lz1_inv (fun x => -1 ≤ x ∧ x < 16 ∧ ∀ j : Int, x < j → j < 16 → (if top (fun j' => σ a (2304 * j + j')) 2304 = -1 then (0 : Int) else 1) = 0) (fun x => x + 1) ?_ ⟨by omega, by omega, fun j h1 h2 => by omega⟩
  rintro X x hX ⟨i1, i2, i3⟩
  refine ⟨⟨by omega, by omega⟩, ?_⟩
  split
  · have : x = -1 := by omega
    subst this
    unfold degX at h
    rw [top_uniq (by omega) i1 i2 i3 (fun h0 => by omega)] at h
    exact h
  · have ht := top_spec (fun j => σ a (2304 * x + j)) (p := 2304) (by omega)
    refine ⟨⟨by omega, by omega, fun j g1 g2 => hc _ (by omega) (by omega), ⟨by omega, by omega⟩⟩, ?_⟩
    split
    · rename_i hd
      refine hX _ ⟨by omega, by omega, fun j g1 g2 => ?_⟩ (by omega)
      by_cases hj : j = x
      · subst hj; rw [if_pos hd]
      · exact i3 j (by omega) g2
    · rename_i hd
      unfold degX at h
      rw [top_uniq (by omega) i1 i2 i3 (fun _ => by rw [if_neg hd]; decide)] at h
      exact h
end S1
