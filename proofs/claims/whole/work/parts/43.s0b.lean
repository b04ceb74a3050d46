section S0B
variable {B : va_E} {σ : l2_m} {K : Int → l2_m → Prop}
theorem s49 (hc : ∀ j : Int, 0 ≤ j → j < 8 → rg (σ (85 + 3 * Int.toNat j) 2)) (h : K (sumN (fun j => σ (85 + 3 * Int.toNat j) 2) 8) σ) : wC B 49 [vr 74] σ K := by
  refine o49 ?_
  unfold w49 w49_4
  refine lz2_inv (fun x i => 0 ≤ i ∧ i ≤ 8 ∧ x = sumN (fun j => σ (85 + 3 * Int.toNat j) 2) i.toNat) (fun _ i => 8 - i) ?_ ⟨by omega, by omega, rfl⟩
  rintro X x i hX ⟨i1, i2, rfl⟩
  refine ⟨⟨by omega, by omega⟩, ?_⟩
  split
  · refine ⟨⟨by omega, by omega⟩, ?_⟩
    rintro _ rfl
    exact hX _ _ ⟨by omega, by omega, (sumN_step i1).symm⟩ (by omega)
  · have : i = 8 := by omega
    subst this
    exact h
theorem s159 (h : K (sumN (fun j => σ (162 + 3 * Int.toNat j) 2) 8) σ) : wC B 159 [vr 32] σ K := by
  refine o159 ?_
  unfold w159 w159_4
  refine lz2_inv (fun x i => 0 ≤ i ∧ i ≤ 8 ∧ x = sumN (fun j => σ (162 + 3 * Int.toNat j) 2) i.toNat) (fun _ i => 8 - i) ?_ ⟨by omega, by omega, rfl⟩
  rintro X x i hX ⟨i1, i2, rfl⟩
  refine ⟨⟨by omega, by omega⟩, ?_⟩
  split
  · refine ⟨⟨by omega, by omega⟩, ?_⟩
    rintro _ rfl
    exact hX _ _ ⟨by omega, by omega, (sumN_step i1).symm⟩ (by omega)
  · have : i = 8 := by omega
    subst this
    exact h
theorem s158 (hc : ∀ j : Int, 0 ≤ j → j < 8 → rg (σ (162 + 3 * Int.toNat j) 2)) (h : K (sumN (fun j => if 0 < σ (162 + 3 * Int.toNat j) 2 then 1 else 0) 8) σ) : wC B 158 [vr 32] σ K := by
  refine o158 ?_
  unfold w158 w158_4
  refine lz2_inv (fun x i => 0 ≤ i ∧ i ≤ 8 ∧ x = sumN (fun j => if 0 < σ (162 + 3 * Int.toNat j) 2 then 1 else 0) i.toNat) (fun _ i => 8 - i) ?_ ⟨by omega, by omega, rfl⟩
  rintro X x i hX ⟨i1, i2, rfl⟩
  refine ⟨⟨by omega, by omega⟩, ?_⟩
  split
  · refine ⟨⟨by omega, by omega, hc i i1 (by omega)⟩, ?_⟩
    split
    · rename_i hp
      rintro _ rfl
      exact hX _ _ ⟨by omega, by omega, by rw [sumN_step i1, if_pos hp]⟩ (by omega)
    · rename_i hp
      rintro _ rfl
      exact hX _ _ ⟨by omega, by omega, by rw [sumN_step i1, if_neg hp]⟩ (by omega)
  · have : i = 8 := by omega
    subst this
    exact h
theorem s160 (hc : ∀ j : Int, 0 ≤ j → j < 8 → rg (σ (162 + 3 * Int.toNat j) 2)) (h : ∀ r : Int, (r = -1 ∧ (∀ j : Int, 0 ≤ j → j < 8 → σ (162 + 3 * Int.toNat j) 2 ≠ 0)) ∨ (0 ≤ r ∧ r < 8 ∧ σ (162 + 3 * Int.toNat r) 2 = 0 ∧ ∀ j : Int, 0 ≤ j → j < r → σ (162 + 3 * Int.toNat j) 2 ≠ 0) → K r σ) : wC B 160 [vr 32] σ K := by
  refine o160 ?_
  unfold w160 w160_2
  refine lz1_inv (fun i => 0 ≤ i ∧ i ≤ 8 ∧ ∀ j : Int, 0 ≤ j → j < i → σ (162 + 3 * Int.toNat j) 2 ≠ 0) (fun i => 8 - i) ?_ ⟨by omega, by omega, fun j h1 h2 => by omega⟩
  rintro X i hX ⟨i1, i2, i3⟩
  refine ⟨⟨by omega, by omega⟩, ?_⟩
  split
  · rename_i hl
    refine ⟨⟨by omega, by omega, hc i i1 (by omega)⟩, ?_⟩
    split
    · rename_i hp
      exact h i (Or.inr ⟨i1, hl, hp, i3⟩)
    · rename_i hp
      refine hX _ ⟨by omega, by omega, fun j g1 g2 => ?_⟩ (by omega)
      by_cases hj : j = i
      · subst hj; exact hp
      · exact i3 j g1 (by omega)
  · exact h (-1) (Or.inl ⟨rfl, fun j g1 g2 => i3 j g1 (by omega)⟩)
def fofn (σ : l2_m) (n : Int) : Int := if 0 ≤ n ∧ n < σ 110 3 then σ 111 n else σ 110 7
theorem s56 {n : Int} (h1 : rg n) (h2 : 0 ≤ σ 110 3) (h3 : σ 110 3 ≤ 97) (h : K (fofn σ n) σ) : wC B 56 [vr 110, vi n] σ K := by
  refine o56 ?_
  unfold w56
  refine ⟨h1, fun _ => ⟨by omega, by omega⟩, ?_⟩
  unfold fofn at h
  by_cases hc : 0 ≤ n ∧ n < σ 110 3
  · rw [if_neg (by omega)]
    rw [if_pos hc] at h
    exact ⟨⟨by omega, by omega⟩, h⟩
  · rw [if_pos (by omega)]
    rw [if_neg hc] at h
    exact h
def fmul (z a b : Int) : Int := if a = z ∨ b = z then z else if a + b < z then a + b else a + b - z
theorem s58 {a b : Int} (h1 : 0 ≤ a) (h2 : a ≤ σ 110 7) (h3 : 0 ≤ b) (h4 : b ≤ σ 110 7) (h5 : σ 110 7 ≤ 10000) (h : K (fmul (σ 110 7) a b) σ) : wC B 58 [vr 110, vi a, vi b] σ K := by
  refine o58 ?_
  unfold w58
  refine ⟨⟨⟨by omega, by omega⟩, ⟨by omega, by omega⟩⟩, fun _ => ⟨by omega, by omega⟩, ?_⟩
  unfold fmul at h
  split at h
  · rename_i hc; rw [if_pos hc]; exact h
  · rename_i hc
    rw [if_neg hc]
    refine ⟨⟨by omega, by omega⟩, ?_⟩
    split at h
    · rename_i hd; rw [if_pos hd]; exact h
    · rename_i hd; rw [if_neg hd]; exact h
theorem fmul_b {z a b : Int} (h0 : 0 ≤ z) (h1 : 0 ≤ a) (h2 : a ≤ z) (h3 : 0 ≤ b) (h4 : b ≤ z) : 0 ≤ fmul z a b ∧ fmul z a b ≤ z := by
  unfold fmul
  split
  · omega
  · split <;> omega
def finv (z a : Int) : Int := if a = z ∨ a = 0 then a else z - a
theorem s61 {a : Int} (h1 : 0 ≤ a) (h2 : a ≤ σ 110 7) (h5 : σ 110 7 ≤ 10000) (h : K (finv (σ 110 7) a) σ) : wC B 61 [vr 110, vi a] σ K := by
  refine o61 ?_
  unfold w61
  refine ⟨⟨⟨by omega, by omega⟩, ⟨by omega, by omega⟩⟩, ?_⟩
  unfold finv at h
  split at h
  · rename_i hc; rw [if_pos hc]; exact h
  · rename_i hc; rw [if_neg hc]; exact h
theorem s63 (h : K 0 (l2_u σ 128 6 0)) : wC B 63 [vr 128] σ K := by
  refine o63 ?_
  rintro _ rfl
  exact h
abbrev isPr (n : Int) : Prop := n ∈ ([2, 3, 5, 7, 11, 13, 17, 19, 23, 29, 31, 37, 41, 43, 47, 53, 59, 61, 67, 71, 73, 79, 83, 89, 97] : List Int)
theorem PR_1 (j : Nat) (hj : j < 25) : isPr (l2_PR 1 j) := by
  have key : ∀ j, j < 25 → isPr (l2_PR 1 ((j : Nat) : Int)) := by decide
  exact key j hj
theorem PR_1s (n : Int) (h : isPr n) : ∃ j : Nat, j < 25 ∧ l2_PR 1 j = n := by
  have key : ∀ n ∈ ([2, 3, 5, 7, 11, 13, 17, 19, 23, 29, 31, 37, 41, 43, 47, 53, 59, 61, 67, 71, 73, 79, 83, 89, 97] : List Int), ∃ j : Nat, j < 25 ∧ l2_PR 1 j = n := by decide
  exact key n h
theorem s69 {n : Int} (h1 : rg n) (h : K (b2i (isPr n)) σ) : wC B 69 [vi n] σ K := by
  refine o69 ?_
  unfold w69 w69_2
  refine lz1_inv (fun i => 0 ≤ i ∧ i ≤ 25 ∧ ∀ j : Nat, (j : Int) < i → l2_PR 1 j ≠ n) (fun i => 25 - i) ?_ ⟨by omega, by omega, fun j h => by omega⟩
  rintro X i hX ⟨i1, i2, i3⟩
  refine ⟨⟨by omega, by omega⟩, ?_⟩
  split
  · rename_i hl
    refine ⟨⟨i1, hl, h1⟩, ?_⟩
    obtain ⟨m, rfl⟩ := Int.eq_ofNat_of_zero_le i1
    split
    · rename_i he
      have : isPr n := by rw [← he]; exact PR_1 m (by omega)
      rw [b2i, if_pos this] at h
      exact h
    · rename_i he
      refine hX _ ⟨by omega, by omega, fun j hj => ?_⟩ (by omega)
      by_cases e : j = m
      · subst e; exact he
      · exact i3 j (by omega)
  · have : ¬ isPr n := by
      intro hp
      obtain ⟨j, hj, e⟩ := PR_1s n hp
      exact i3 j (by omega) e
    rw [b2i, if_neg this] at h
    exact h
theorem s94 {n : Int} (h : K 0 (l2_u (l2_u σ 49 4 n) 49 5 (σ 49 11))) : wC B 94 [vr 49, vi n] σ K := by
  refine o94 ?_
  intro σ1 e1 σ2 e2
  have : σ1 49 11 = σ 49 11 := by rw [e1]; exact l2_u_nj (by decide)
  rw [e2, this, e1]
  exact h
theorem s100 {c : Int} (h1 : rg (σ 49 10)) (h2 : rg (σ 49 12)) (h3 : rg c) (h : K (b2i (σ 49 10 = 3 ∧ σ 49 12 = c)) σ) : wC B 100 [vr 49, vi c] σ K := by
  refine o100 ?_
  unfold w100
  exact ⟨h1, fun _ => ⟨h2, h3⟩, b2i_p Iff.rfl h⟩
def unk (σ : l2_m) : Int := if σ 49 10 = 1 ∧ σ 49 8 - σ 49 11 = 1 ∧ 120 ≤ σ 55 (σ 49 11) ∧ σ 55 (σ 49 11) ≤ 122 then σ 55 (σ 49 11) - 120 else -1
theorem s102 (h1 : rg (σ 49 10)) (h2 : 0 ≤ σ 49 11) (h3 : σ 49 11 ≤ σ 49 8) (h4 : σ 49 8 ≤ 700) (h5 : rg (σ 55 (σ 49 11))) (h : K (unk σ) σ) : wC B 102 [vr 49] σ K := by
  refine o102 ?_
  unfold w102
  unfold unk at h
  refine ⟨h1, fun _ => ⟨by omega, by omega⟩, ?_⟩
  by_cases hc : σ 49 10 = 1 ∧ σ 49 8 - σ 49 11 = 1
  · rw [if_pos hc]
    refine ⟨⟨by omega, by omega⟩, ?_⟩
    rintro _ rfl
    refine ⟨h5, ?_⟩
    split
    · rename_i hd; rw [if_neg (by omega)] at h; exact h
    · rename_i hd; rw [if_pos (by omega)] at h; exact h
  · rw [if_neg hc]
    rw [if_neg (by omega)] at h
    exact h
theorem s104 {c : Int} (h1 : rg c) (h : K (b2i (97 ≤ c ∧ c ≤ 122)) σ) : wC B 104 [vi c] σ K := by
  refine o104 ?_
  unfold w104
  exact ⟨h1, b2i_n (by omega) h⟩
theorem s105 {c : Int} (h1 : rg c) (h : K (b2i (48 ≤ c ∧ c ≤ 57)) σ) : wC B 105 [vi c] σ K := by
  refine o105 ?_
  unfold w105
  exact ⟨h1, b2i_n (by omega) h⟩
/-! the reference's -/
theorem s167 (h : K (σ 186 0) σ) : wC B 167 [vr 186] σ K := o167 h
def trr (σ : l2_m) (n : Int) : l2_m := l2_u (l2_u σ 186 1 n) 186 2 (-1)
theorem s168 {n : Int} (h : K (-1) (trr σ n)) : wC B 168 [vr 186, vi n] σ K := by
  refine o168 ?_
  rintro _ rfl _ rfl
  exact h
theorem s169 {n : Int} (h : K n (trr σ 0)) : wC B 169 [vr 186, vi n] σ K := by
  refine o169 ?_
  rintro _ rfl _ rfl
  exact h
theorem s170 {v lo hi : Int} (h1 : rg v) (h2 : rg lo) (h3 : rg hi) (h : K (b2i (lo ≤ v ∧ v ≤ hi)) σ) : wC B 170 [vi v, vi lo, vi hi] σ K := by
  refine o170 ?_
  unfold w170
  exact ⟨⟨h1, h2⟩, fun _ => h3, b2i_n (by omega) h⟩
theorem s171 {m u : Int} (h1 : rg m) (h2 : 0 ≤ u) (h3 : u < 3) (h : K (e4 m u) σ) : wC B 171 [vi m, vi u] σ K := by
  refine o171 ?_
  unfold w171
  exact ⟨⟨h1, by omega, by omega⟩, h⟩
theorem s173 {x y z : Int} (h1 : 0 ≤ x) (h2 : x < 16) (h3 : 0 ≤ y) (h4 : y < 16) (h5 : 0 ≤ z) (h6 : z < 16) (h : K (x + 16 * y + 256 * z) σ) : wC B 173 [vi x, vi y, vi z] σ K := by
  refine o173 ?_
  unfold w173
  rw [ior_16 h3 h1 h2, ior_256 h5 (by omega) (by omega)]
  refine ⟨⟨by omega, by omega, by omega, by omega, by omega, by omega, by omega, by omega⟩, ?_⟩
  have : z * 256 + (y * 16 + x) = x + 16 * y + 256 * z := by omega
  rw [this]; exact h
def byA (σ : l2_m) (k : Int) : Int := if k < σ 186 17 then σ 189 k % 256 else -1
theorem byA_rg (σ : l2_m) (k : Int) : rg (byA σ k) := by
  unfold byA
  split
  · exact rg_mod _ (by decide) (by decide)
  · decide
theorem s174 {k : Int} (h1 : 0 ≤ k) (h2 : k ≤ 100000) (h3 : rg (σ 186 17)) (h4 : σ 186 17 ≤ 700) (h : K (byA σ k) σ) : wC B 174 [vr 186, vi k] σ K := by
  refine o174 ?_
  unfold w174
  unfold byA at h
  refine ⟨⟨⟨by omega, by omega⟩, h3⟩, ?_⟩
  split at h
  · rename_i hc; rw [if_pos hc]; exact ⟨⟨by omega, by omega⟩, h⟩
  · rename_i hc; rw [if_neg hc]; exact h
def flw (σ : l2_m) (n : Int) : l2_m := l2_u (l2_u σ 186 22 (if σ 186 22 = 0 then n else σ 186 22)) 186 19 0
theorem s178 {n : Int} (h1 : rg (σ 186 22)) (h : K 0 (flw σ n)) : wC B 178 [vr 186, vi n] σ K := by
  refine o178 ?_
  unfold w178
  unfold flw at h
  refine ⟨h1, ?_⟩
  split
  · rename_i hc
    rw [if_pos hc] at h
    rintro _ rfl _ rfl
    exact h
  · rename_i hc
    rw [if_neg hc] at h
    have e : l2_u σ 186 22 (σ 186 22) = σ := by
      funext b j
      unfold l2_u
      split
      · rename_i hb; rw [hb.1, hb.2]
      · rfl
    rw [e] at h
    rintro _ rfl
    exact h
theorem s193 (h : K (3 - σ 186 7 - σ 186 8) σ) : wC B 193 [vr 186] σ K := o193 h
theorem s201 {r k : Int} (h1 : 0 ≤ r) (h2 : r < 8) (h3 : 0 ≤ k) (h4 : k < 4096) (h : K (σ 187 (4096 * r + k)) σ) : wC B 201 [vr 186, vi r, vi k] σ K := by
  refine o201 ?_
  unfold w201
  exact ⟨⟨by omega, by omega⟩, h⟩
theorem s213 {v e : Int} (h1 : 2 ≤ σ 186 5) (h2 : σ 186 5 ≤ 97) (h3 : 0 ≤ v) (h4 : v < σ 186 5) (h5 : 0 ≤ e) (h6 : e ≤ 100) (h : K (pw (σ 186 5) v e) σ) : wC B 213 [vr 186, vi v, vi e] σ K := by
  refine o213 ?_
  unfold w213 w213_5
  refine lz2_inv (fun x i => 0 ≤ i ∧ i ≤ e ∧ x = pw (σ 186 5) v i) (fun _ i => e - i) ?_ ⟨by omega, h5, rfl⟩
  rintro X x i hX ⟨i1, i2, rfl⟩
  refine ⟨⟨⟨by omega, by omega⟩, ⟨by omega, by omega⟩⟩, ?_⟩
  split
  · have hb := pw_b (v := v) h1 i
    have hm := mul_rg hb.1 (by omega) h3 (by omega)
    refine ⟨⟨⟨by omega, by omega⟩, ⟨by omega, by omega⟩, by omega, hm.1⟩, ?_⟩
    rintro _ rfl
    exact hX _ _ ⟨by omega, by omega, (pw_step i1).symm⟩ (by omega)
  · have : i = e := by omega
    subst this
    exact h
theorem s222 (h : K 0 (l2_u (fil σ 192 0 4096) 186 29 1)) : wC B 222 [vr 186] σ K := by
  refine o222 ?_
  unfold w222 w222_2
  refine lz2_inv (fun x τ => 0 ≤ x ∧ x ≤ 4096 ∧ τ = fil σ 192 0 x) (fun x _ => 4096 - x) ?_ ?_
  · rintro X x τ hX ⟨i1, i2, rfl⟩
    refine ⟨⟨by omega, by omega⟩, ?_⟩
    split
    · rename_i hc
      refine ⟨⟨i1, hc⟩, ?_⟩
      rintro _ rfl
      refine hX _ _ ⟨by omega, by omega, ?_⟩ (by omega)
      funext b j
      unfold l2_u fil
      by_cases b1 : b = 192
      · subst b1
        by_cases j1 : j = x
        · subst j1; simp [i1]; intro hh; omega
        · simp [j1]; split <;> split <;> first | rfl | omega
      · simp [b1]
    · have : x = 4096 := by omega
      subst this
      rintro _ rfl
      exact h
  · refine ⟨by omega, by omega, ?_⟩
    funext b j
    unfold fil
    rw [if_neg (by omega)]
theorem s223 (hc : ∀ j : Int, 0 ≤ j → j < 4096 → rg (σ 192 j)) (h : K (cnt (σ 192) 4096) σ) : wC B 223 [vr 186] σ K := by
  refine o223 ?_
  unfold w223 w223_4
  refine lz2_inv (fun x i => 0 ≤ i ∧ i ≤ 4096 ∧ x = cnt (σ 192) i) (fun _ i => 4096 - i) ?_ ⟨by omega, by omega, (cnt_0 _).symm⟩
  rintro X x i hX ⟨i1, i2, rfl⟩
  refine ⟨⟨by omega, by omega⟩, ?_⟩
  split
  · rename_i hl
    refine ⟨⟨i1, hl, hc i i1 hl⟩, ?_⟩
    split
    · rename_i hp
      rintro _ rfl
      exact hX _ _ ⟨by omega, by omega, by rw [cnt_step i1, if_pos hp]⟩ (by omega)
    · rename_i hp
      rintro _ rfl
      exact hX _ _ ⟨by omega, by omega, by rw [cnt_step i1, if_neg hp]⟩ (by omega)
  · have : i = 4096 := by omega
    subst this
    exact h
/-- the least inverse -/
theorem s226 {c i0 : Int} (h1 : 2 ≤ σ 186 5) (h2 : σ 186 5 ≤ 97) (h3 : 0 < c) (h4 : c < σ 186 5) (g1 : 1 ≤ i0) (g2 : i0 < σ 186 5) (g3 : i0 * c % σ 186 5 = 1) (h : ∀ i : Int, 1 ≤ i → i ≤ i0 → i * c % σ 186 5 = 1 → K i σ) : wC B 226 [vr 186, vi c] σ K := by
  refine o226 ?_
  unfold w226 w226_2
  refine lz1_inv (fun i => 1 ≤ i ∧ i ≤ i0) (fun i => i0 - i) ?_ ⟨by omega, g1⟩
  rintro X i hX ⟨i1, i2⟩
  have hm := mul_rg (a := i) (b := c) (by omega) (by omega) (by omega) (by omega)
  refine ⟨⟨⟨by omega, by omega⟩, ⟨by omega, by omega⟩, by omega, hm.1, rg_mod _ (by omega) (by omega)⟩, ?_⟩
  split
  · rename_i hc; exact h i i1 i2 hc
  · rename_i hc
    have : i ≠ i0 := by rintro rfl; exact hc g3
    exact hX _ ⟨by omega, by omega⟩ (by omega)
/-- a row comes out of rows -/
def cpR (σ : l2_m) (a : Nat) (at_ : Int) (d : Nat) (n : Int) : l2_m := fun b j => if b = d ∧ 0 ≤ j ∧ j < n then σ a (at_ + j) else σ b j
theorem s256 {a d : Nat} {at_ : Int} (ha : l2_al a = some 36864) (hd : l2_al d = some 2304) (h0 : 0 ≤ at_) (h1 : at_ + 2304 ≤ 36864) (h : K 0 (cpR σ a at_ d 2304)) : wC B 256 [vr a, vi at_, vr d] σ K := by
  have hne : a ≠ d := by rintro rfl; rw [ha] at hd; cases hd
  refine o256 ha hd ?_
  unfold w256 w256_2
  refine lz2_inv (fun x τ => 0 ≤ x ∧ x ≤ 2304 ∧ τ = cpR σ a at_ d x) (fun x _ => 2304 - x) ?_ ?_
  · rintro X x τ hX ⟨i1, i2, rfl⟩
    refine ⟨⟨by omega, by omega⟩, ?_⟩
    split
    · rename_i hc
      refine ⟨⟨by omega, by omega, i1, hc⟩, ?_⟩
      rintro _ rfl
      refine hX _ _ ⟨by omega, by omega, ?_⟩ (by omega)
      funext b j
      unfold l2_u cpR
      by_cases b1 : b = d
      · subst b1
        by_cases j1 : j = x
        · subst j1; simp [i1, hne]; intro hh; omega
        · simp [j1]; split <;> split <;> first | rfl | omega
      · simp [b1]
    · have : x = 2304 := by omega
      subst this
      exact h
  · refine ⟨by omega, by omega, ?_⟩
    funext b j
    unfold cpR
    rw [if_neg (by omega)]
end S0B
