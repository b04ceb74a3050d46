/-! ===== marks; polynomials held in rows of terms ===== -/
theorem e4_d0 {x y z : Int} (h0 : 0 ≤ x) (h1 : x < 16) : e4 (x + 16 * y + 256 * z) 0 = x := by rw [e4_0]; omega
theorem e4_d1 {x y z : Int} (h0 : 0 ≤ x) (h1 : x < 16) (h2 : 0 ≤ y) (h3 : y < 16) : e4 (x + 16 * y + 256 * z) 1 = y := by rw [e4_1]; omega
theorem e4_d2 {x y z : Int} (h0 : 0 ≤ x) (h1 : x < 16) (h2 : 0 ≤ y) (h3 : y < 16) (h4 : 0 ≤ z) (h5 : z < 16) : e4 (x + 16 * y + 256 * z) 2 = z := by rw [e4_2]; omega
theorem key_eq {k : Int} (h0 : 0 ≤ k) (h1 : k < 4096) : k = e4 k 0 + 16 * e4 k 1 + 256 * e4 k 2 := by rw [e4_0, e4_1, e4_2]; omega
theorem key_b {x y z : Int} (h0 : 0 ≤ x) (h1 : x < 16) (h2 : 0 ≤ y) (h3 : y < 16) (h4 : 0 ≤ z) (h5 : z < 16) : 0 ≤ x + 16 * y + 256 * z ∧ x + 16 * y + 256 * z < 4096 := by omega
theorem key_ext {k l : Int} (h0 : 0 ≤ k) (h1 : k < 4096) (h2 : 0 ≤ l) (h3 : l < 4096) (g0 : e4 k 0 = e4 l 0) (g1 : e4 k 1 = e4 l 1) (g2 : e4 k 2 = e4 l 2) : k = l := by
  rw [key_eq h0 h1, key_eq h2 h3, g0, g1, g2]
def okW (W : Int → Int) : Prop := (1 ≤ W 0 ∧ W 0 ≤ 272) ∧ (1 ≤ W 1 ∧ W 1 ≤ 272) ∧ (1 ≤ W 2 ∧ W 2 ≤ 272)
/-- how far ahead a term is -/
def rk (W : Int → Int) (k : Int) : Int := e4 k 0 * W 0 + e4 k 1 * W 1 + e4 k 2 * W 2
def MW (W : Int → Int) (k : Int) : Int := 32768 * rk W k + (e4 k 0 + 32 * e4 k 1 + 1024 * e4 k 2)
def UW (W : Int → Int) (u : Int) : Int := W u * 32768 + (if u = 0 then 1 else if u = 1 then 32 else 1024)
theorem MW_U (W : Int → Int) (k : Int) : e4 k 0 * UW W 0 + e4 k 1 * UW W 1 + e4 k 2 * UW W 2 = MW W k := by
  have u0 : UW W 0 = W 0 * 32768 + 1 := rfl
  have u1 : UW W 1 = W 1 * 32768 + 32 := rfl
  have u2 : UW W 2 = W 2 * 32768 + 1024 := rfl
  unfold MW rk
  rw [u0, u1, u2]
  grind
theorem rk_b {W : Int → Int} (hW : okW W) (k : Int) : 0 ≤ rk W k ∧ rk W k ≤ 12240 := by
  obtain ⟨⟨a1, a2⟩, ⟨b1, b2⟩, ⟨c1, c2⟩⟩ := hW
  have h0 := mul_b (e4_b k 0).1 (show e4 k 0 ≤ 15 by have := e4_b k 0; omega) (show 0 ≤ W 0 by omega) a2
  have h1 := mul_b (e4_b k 1).1 (show e4 k 1 ≤ 15 by have := e4_b k 1; omega) (show 0 ≤ W 1 by omega) b2
  have h2 := mul_b (e4_b k 2).1 (show e4 k 2 ≤ 15 by have := e4_b k 2; omega) (show 0 ≤ W 2 by omega) c2
  unfold rk
  omega
theorem MW_b {W : Int → Int} (hW : okW W) (k : Int) : 0 ≤ MW W k ∧ MW W k < 500000000 := by
  have := rk_b hW k
  have := e4_b k 0
  have := e4_b k 1
  have := e4_b k 2
  unfold MW
  omega
theorem MW_rg {W : Int → Int} (hW : okW W) (k : Int) : rg (MW W k) := by have := MW_b hW k; exact ⟨by omega, by omega⟩
theorem dig5 {R x y z : Int} (h0 : 0 ≤ x) (h1 : x < 32) (h2 : 0 ≤ y) (h3 : y < 32) (h4 : 0 ≤ z) (h5 : z < 32) : e5 (32768 * R + (x + 32 * y + 1024 * z)) 0 = x ∧ e5 (32768 * R + (x + 32 * y + 1024 * z)) 1 = y ∧ e5 (32768 * R + (x + 32 * y + 1024 * z)) 2 = z := by
  rw [e5_0, e5_1, e5_2]
  refine ⟨by omega, by omega, by omega⟩
theorem MW_e (W : Int → Int) (k : Int) : e5 (MW W k) 0 = e4 k 0 ∧ e5 (MW W k) 1 = e4 k 1 ∧ e5 (MW W k) 2 = e4 k 2 := by
  have := e4_b k 0
  have := e4_b k 1
  have := e4_b k 2
  exact dig5 (by omega) (by omega) (by omega) (by omega) (by omega) (by omega)
theorem u3 {P : Int → Prop} (h0 : P 0) (h1 : P 1) (h2 : P 2) {u : Int} (g0 : 0 ≤ u) (g1 : u < 3) : P u := by
  have : u = 0 ∨ u = 1 ∨ u = 2 := by omega
  rcases this with rfl | rfl | rfl
  · exact h0
  · exact h1
  · exact h2
theorem MW_eu (W : Int → Int) (k : Int) {u : Int} (g0 : 0 ≤ u) (g1 : u < 3) : e5 (MW W k) u = e4 k u :=
  u3 (P := fun u => e5 (MW W k) u = e4 k u) (MW_e W k).1 (MW_e W k).2.1 (MW_e W k).2.2 g0 g1
theorem MW_inj {W : Int → Int} {k l : Int} (h0 : 0 ≤ k) (h1 : k < 4096) (h2 : 0 ≤ l) (h3 : l < 4096) (h : MW W k = MW W l) : k = l := by
  have a := MW_e W k
  have b := MW_e W l
  rw [h] at a
  exact key_ext h0 h1 h2 h3 (by omega) (by omega) (by omega)
/-- a mark's exponents as a key -/
def kom (m : Int) : Int := e5 m 0 + 16 * e5 m 1 + 256 * e5 m 2
theorem kom_MW {W : Int → Int} {k : Int} (h0 : 0 ≤ k) (h1 : k < 4096) : kom (MW W k) = k := by
  have a := MW_e W k
  unfold kom
  rw [a.1, a.2.1, a.2.2]
  exact (key_eq h0 h1).symm
/-! exponents together -/
abbrev noO (k d : Int) : Prop := e4 k 0 + e4 d 0 < 16 ∧ e4 k 1 + e4 d 1 < 16 ∧ e4 k 2 + e4 d 2 < 16
theorem add_e {k d : Int} (h0 : 0 ≤ k) (h1 : k < 4096) (h2 : 0 ≤ d) (h3 : d < 4096) (h : noO k d) : 0 ≤ k + d ∧ k + d < 4096 ∧ e4 (k + d) 0 = e4 k 0 + e4 d 0 ∧ e4 (k + d) 1 = e4 k 1 + e4 d 1 ∧ e4 (k + d) 2 = e4 k 2 + e4 d 2 := by
  have a := key_eq h0 h1
  have b := key_eq h2 h3
  have c0 := e4_b k 0
  have c1 := e4_b k 1
  have c2 := e4_b k 2
  have d0 := e4_b d 0
  have d1 := e4_b d 1
  have d2 := e4_b d 2
  have e : k + d = (e4 k 0 + e4 d 0) + 16 * (e4 k 1 + e4 d 1) + 256 * (e4 k 2 + e4 d 2) := by omega
  have f := key_b (x := e4 k 0 + e4 d 0) (y := e4 k 1 + e4 d 1) (z := e4 k 2 + e4 d 2) (by omega) (by omega) (by omega) (by omega) (by omega) (by omega)
  rw [← e] at f
  refine ⟨f.1, f.2, ?_, ?_, ?_⟩
  · rw [e]; exact e4_d0 (by omega) (by omega)
  · rw [e]; exact e4_d1 (by omega) (by omega) (by omega) (by omega)
  · rw [e]; exact e4_d2 (by omega) (by omega) (by omega) (by omega) (by omega) (by omega)
theorem ksum_eq {k d : Int} (h0 : 0 ≤ k) (h1 : k < 4096) (h2 : 0 ≤ d) (h3 : d < 4096) : ksum k d = if noO k d then k + d else -1 := by
  unfold ksum
  by_cases h : noO k d
  · rw [if_pos h, if_pos h]
    have a := key_eq h0 h1
    have b := key_eq h2 h3
    omega
  · rw [if_neg h, if_neg h]
theorem MW_add {W : Int → Int} {k d : Int} (h0 : 0 ≤ k) (h1 : k < 4096) (h2 : 0 ≤ d) (h3 : d < 4096) (h : noO k d) : MW W (k + d) = MW W k + MW W d := by
  obtain ⟨-, -, a, b, c⟩ := add_e h0 h1 h2 h3 h
  unfold MW rk
  rw [a, b, c]
  grind
theorem MW_ov (W : Int → Int) (k d : Int) : (0 ≤ MW W k + MW W d → (iand (MW W k + MW W d) 16912 = 0 ↔ noO k d)) := by
  intro hn
  rw [iand_ov _ hn]
  have c0 := e4_b k 0
  have c1 := e4_b k 1
  have c2 := e4_b k 2
  have d0 := e4_b d 0
  have d1 := e4_b d 1
  have d2 := e4_b d 2
  have e : MW W k + MW W d = 32768 * (rk W k + rk W d) + ((e4 k 0 + e4 d 0) + 32 * (e4 k 1 + e4 d 1) + 1024 * (e4 k 2 + e4 d 2)) := by unfold MW; omega
  have f := dig5 (R := rk W k + rk W d) (x := e4 k 0 + e4 d 0) (y := e4 k 1 + e4 d 1) (z := e4 k 2 + e4 d 2) (by omega) (by omega) (by omega) (by omega) (by omega) (by omega)
  rw [← e, e5_0, e5_1, e5_2] at f
  rw [f.1, f.2.1, f.2.2]
  unfold noO
  have x0 : 0 ≤ e4 k 0 + e4 d 0 := by omega
  have y0 : 0 ≤ e4 k 1 + e4 d 1 := by omega
  have z0 : 0 ≤ e4 k 2 + e4 d 2 := by omega
  generalize e4 k 0 + e4 d 0 = x at *
  generalize e4 k 1 + e4 d 1 = y at *
  generalize e4 k 2 + e4 d 2 = z at *
  clear e f hn
  omega
/-- what lies that far below -/
def shf (d : Int) (f : Int → Int) (k : Int) : Int := if e4 d 0 ≤ e4 k 0 ∧ e4 d 1 ≤ e4 k 1 ∧ e4 d 2 ≤ e4 k 2 then f (k - d) else 0
theorem sub_e {k d : Int} (h0 : 0 ≤ k) (h1 : k < 4096) (h2 : 0 ≤ d) (h3 : d < 4096) (g : e4 d 0 ≤ e4 k 0 ∧ e4 d 1 ≤ e4 k 1 ∧ e4 d 2 ≤ e4 k 2) : 0 ≤ k - d ∧ k - d < 4096 ∧ noO (k - d) d := by
  have a := key_eq h0 h1
  have b := key_eq h2 h3
  have c0 := e4_b k 0
  have c1 := e4_b k 1
  have c2 := e4_b k 2
  have d0 := e4_b d 0
  have d1 := e4_b d 1
  have d2 := e4_b d 2
  have e : k - d = (e4 k 0 - e4 d 0) + 16 * (e4 k 1 - e4 d 1) + 256 * (e4 k 2 - e4 d 2) := by omega
  have f := key_b (x := e4 k 0 - e4 d 0) (y := e4 k 1 - e4 d 1) (z := e4 k 2 - e4 d 2) (by omega) (by omega) (by omega) (by omega) (by omega) (by omega)
  rw [← e] at f
  refine ⟨f.1, f.2, ?_, ?_, ?_⟩
  · rw [e, e4_d0 (by omega) (by omega)]; omega
  · rw [e, e4_d1 (by omega) (by omega) (by omega) (by omega)]; omega
  · rw [e, e4_d2 (by omega) (by omega) (by omega) (by omega) (by omega) (by omega)]; omega
theorem shf_add {k d : Int} (f : Int → Int) (h0 : 0 ≤ k) (h1 : k < 4096) (h2 : 0 ≤ d) (h3 : d < 4096) (h : noO k d) : shf d f (k + d) = f k := by
  obtain ⟨-, -, a, b, c⟩ := add_e h0 h1 h2 h3 h
  have c0 := e4_b k 0
  have c1 := e4_b k 1
  have c2 := e4_b k 2
  unfold shf
  rw [if_pos (by omega)]
  congr 1
  omega
/-! counting -/
theorem cnt_upd {f : Int → Int} {N k : Int} (h0 : 0 ≤ k) (h1 : k < N) (h : f k ≠ 0) : cnt (upI f k 0) N = cnt f N - 1 := by
  rw [cnt_def, cnt_def]
  have e : sumN (fun j => if upI f k 0 j = 0 then (0 : Int) else 1) N.toNat = sumN (upI (fun j => if f j = 0 then (0 : Int) else 1) k 0) N.toNat := sumN_congr (fun j a b => by
    unfold upI
    by_cases hj : j = k
    · simp [hj]
    · simp [hj])
  rw [e, sumN_upd h0 (by omega), if_neg h]
  omega
theorem cnt_inj {N : Int} (ks : Int → Int) (n : Nat) : ∀ f : Int → Int, (∀ i : Int, 0 ≤ i → i < n → 0 ≤ ks i ∧ ks i < N ∧ f (ks i) ≠ 0) → (∀ i j : Int, 0 ≤ i → i < j → j < n → ks i ≠ ks j) → (n : Int) ≤ cnt f N := by
  induction n with
  | zero =>
    intro f _ _
    rw [cnt_def]
    exact sumN_nonneg (fun j a b => by split <;> decide)
  | succ n ih =>
    intro f h1 h2
    have hn := h1 n (by omega) (by omega)
    have := ih (upI f (ks n) 0) (fun i a b => by
      have := h1 i a (by omega)
      refine ⟨this.1, this.2.1, ?_⟩
      unfold upI
      rw [if_neg (h2 i n a (by omega) (by omega))]
      exact this.2.2) (fun i j a b c => h2 i j a b (by omega))
    rw [cnt_upd hn.1 hn.2.1 hn.2.2] at this
    omega
theorem cnt_surj {N : Int} (ks : Int → Int) (n : Nat) : ∀ f : Int → Int, (∀ k : Int, 0 ≤ k → k < N → f k ≠ 0 → ∃ i : Int, 0 ≤ i ∧ i < n ∧ ks i = k) → cnt f N ≤ n := by
  induction n with
  | zero =>
    intro f h
    rw [cnt_def]
    refine Int.le_of_eq (sumN_zero (fun j a b => ?_))
    split
    · rfl
    · rename_i hf
      obtain ⟨i, g1, g2, -⟩ := h j a (by omega) hf
      omega
  | succ n ih =>
    intro f h
    have := ih (upI f (ks n) 0) (fun k a b c => by
      unfold upI at c
      by_cases hk : k = ks n
      · rw [if_pos hk] at c; exact absurd rfl c
      · rw [if_neg hk] at c
        obtain ⟨i, g1, g2, g3⟩ := h k a b c
        refine ⟨i, g1, ?_, g3⟩
        by_cases hi : i = n
        · subst hi; exact absurd g3.symm hk
        · omega)
    by_cases hk : 0 ≤ ks n ∧ ks n < N ∧ f (ks n) ≠ 0
    · rw [cnt_upd hk.1 hk.2.1 hk.2.2] at this
      omega
    · have e : cnt (upI f (ks n) 0) N = cnt f N := cnt_congr (fun j a b => by
        unfold upI
        by_cases hj : j = ks n
        · rw [if_pos hj]
          apply Classical.byContradiction
          intro hc
          subst hj
          exact hk ⟨a, b, fun z => hc z.symm⟩
        · rw [if_neg hj])
      rw [e] at this
      omega
theorem cnt_zero {f : Int → Int} {N : Int} (h : cnt f N = 0) {k : Int} (h0 : 0 ≤ k) (h1 : k < N) : f k = 0 := by
  apply Classical.byContradiction
  intro hc
  have := cnt_inj (N := N) (fun _ => k) 1 f (fun i a b => ⟨h0, h1, hc⟩) (fun i j a b c => by omega)
  omega
theorem cnt_ne {f : Int → Int} {N : Int} (h : cnt f N ≠ 0) : ∃ k : Int, 0 ≤ k ∧ k < N ∧ f k ≠ 0 := by
  apply Classical.byContradiction
  intro hc
  apply h
  rw [cnt_def]
  refine sumN_zero (fun j a b => ?_)
  rw [if_pos]
  exact Classical.byContradiction (fun z => hc ⟨j, a, by omega, z⟩)
/-- a polynomial (a number a key) stands in a row of terms, the marks falling -/
def PR (σ : l2_m) (o : Nat) (W : Int → Int) (f : Int → Int) : Prop := 0 ≤ σ o 2 ∧ σ o 2 ≤ 60 ∧ (∀ i : Int, 0 ≤ i → i < σ o 2 → ∃ k : Int, 0 ≤ k ∧ k < 4096 ∧ σ (o + 1) i = MW W k ∧ σ (o + 2) i = f k ∧ f k ≠ 0) ∧ (∀ i j : Int, 0 ≤ i → i < j → j < σ o 2 → σ (o + 1) j < σ (o + 1) i) ∧ (∀ k : Int, 0 ≤ k → k < 4096 → f k ≠ 0 → ∃ i : Int, 0 ≤ i ∧ i < σ o 2 ∧ σ (o + 1) i = MW W k)
theorem PR_cnt {σ : l2_m} {o : Nat} {W f : Int → Int} (h : PR σ o W f) : cnt f 4096 = σ o 2 := by
  obtain ⟨h1, h2, h3, h4, h5⟩ := h
  have e : ((σ o 2).toNat : Int) = σ o 2 := Int.toNat_of_nonneg h1
  have a := cnt_inj (N := 4096) (fun i => kom (σ (o + 1) i)) (σ o 2).toNat f (fun i a b => by
    obtain ⟨k, k1, k2, k3, k4, k5⟩ := h3 i a (by omega)
    rw [k3, kom_MW k1 k2]
    exact ⟨k1, k2, k5⟩) (fun i j a b c => by
    obtain ⟨k, k1, k2, k3, k4, k5⟩ := h3 i a (by omega)
    obtain ⟨l, l1, l2, l3, l4, l5⟩ := h3 j (by omega) (by omega)
    have := h4 i j a b (by omega)
    rw [k3, l3, kom_MW k1 k2, kom_MW l1 l2]
    rintro rfl
    omega)
  have b := cnt_surj (N := 4096) (fun i => kom (σ (o + 1) i)) (σ o 2).toNat f (fun k k1 k2 k3 => by
    obtain ⟨i, i1, i2, i3⟩ := h5 k k1 k2 k3
    exact ⟨i, i1, by omega, by rw [i3, kom_MW k1 k2]⟩)
  omega
theorem PR_congr {σ τ : l2_m} {o : Nat} {W f : Int → Int} (h : PR σ o W f) (e0 : τ o 2 = σ o 2) (e1 : ∀ i : Int, 0 ≤ i → i < σ o 2 → τ (o + 1) i = σ (o + 1) i) (e2 : ∀ i : Int, 0 ≤ i → i < σ o 2 → τ (o + 2) i = σ (o + 2) i) : PR τ o W f := by
  obtain ⟨h1, h2, h3, h4, h5⟩ := h
  unfold PR
  rw [e0]
  refine ⟨h1, h2, fun i a b => ?_, fun i j a b c => ?_, fun k a b c => ?_⟩
  · rw [e1 i a b, e2 i a b]; exact h3 i a b
  · rw [e1 i a (by omega), e1 j (by omega) c]; exact h4 i j a b c
  · obtain ⟨i, i1, i2, i3⟩ := h5 k a b c
    exact ⟨i, i1, i2, by rw [e1 i i1 i2]; exact i3⟩
theorem PR_ext {σ : l2_m} {o : Nat} {W f g : Int → Int} (h : PR σ o W f) (e : ∀ k : Int, 0 ≤ k → k < 4096 → g k = f k) : PR σ o W g := by
  obtain ⟨h1, h2, h3, h4, h5⟩ := h
  refine ⟨h1, h2, fun i a b => ?_, h4, fun k a b c => h5 k a b (by rw [← e k a b]; exact c)⟩
  obtain ⟨k, k1, k2, k3, k4, k5⟩ := h3 i a b
  exact ⟨k, k1, k2, k3, by rw [e k k1 k2]; exact k4, by rw [e k k1 k2]; exact k5⟩
/-- one row of terms is one polynomial -/
theorem PR_uniq {σ : l2_m} {o : Nat} {W f g : Int → Int} (h : PR σ o W f) (h' : PR σ o W g) {k : Int} (k0 : 0 ≤ k) (k1 : k < 4096) : f k = g k := by
  obtain ⟨-, -, h3, -, h5⟩ := h
  obtain ⟨-, -, g3, -, g5⟩ := h'
  by_cases hf : f k = 0
  · by_cases hg : g k = 0
    · rw [hf, hg]
    · obtain ⟨i, i1, i2, i3⟩ := g5 k k0 k1 hg
      obtain ⟨l, l1, l2, l3, l4, l5⟩ := h3 i i1 i2
      have := MW_inj l1 l2 k0 k1 (l3.symm.trans i3)
      subst this
      exact absurd hf l5
  · obtain ⟨i, i1, i2, i3⟩ := h5 k k0 k1 hf
    obtain ⟨l, l1, l2, l3, l4, l5⟩ := h3 i i1 i2
    have e1 := MW_inj l1 l2 k0 k1 (l3.symm.trans i3)
    obtain ⟨m, m1, m2, m3, m4, m5⟩ := g3 i i1 i2
    have e2 := MW_inj m1 m2 k0 k1 (m3.symm.trans i3)
    subst e1
    subst e2
    rw [← l4, ← m4]
