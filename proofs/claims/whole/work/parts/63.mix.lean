/-! ===== mix: two polynomials, each times a term, together ===== -/
/-- the mark that is next, or -1 -/
def hd (σ : l2_m) (a : Nat) (m i : Int) : Int := if i < σ a 2 then σ (a + 1) i + m else -1
def mixF (p ac da : Int) (f : Int → Int) (bc db : Int) (g : Int → Int) (k : Int) : Int := (ac * shf da f k + bc * shf db g k) % p
theorem side_src {σ : l2_m} {a : Nat} {W f : Int → Int} {d k : Int} (hf : PR σ a W f) (d0 : 0 ≤ d) (d1 : d < 4096) (k0 : 0 ≤ k) (k1 : k < 4096) (h : shf d f k ≠ 0) : ∃ i : Int, 0 ≤ i ∧ i < σ a 2 ∧ σ (a + 1) i + MW W d = MW W k := by
  unfold shf at h
  split at h
  · rename_i hc
    obtain ⟨s1, s2, s3⟩ := sub_e k0 k1 d0 d1 hc
    obtain ⟨i, i1, i2, i3⟩ := hf.2.2.2.2 (k - d) s1 s2 h
    refine ⟨i, i1, i2, ?_⟩
    rw [i3, ← MW_add s1 s2 d0 d1 s3]
    congr 1
    omega
  · exact absurd rfl h
theorem hd_fall {σ : l2_m} {a : Nat} {W f : Int → Int} {m : Int} (hf : PR σ a W f) (hW : okW W) (m0 : 0 ≤ m) {i j : Int} (i0 : 0 ≤ i) (hij : i < j) (hi : i < σ a 2) : hd σ a m j < hd σ a m i := by
  unfold hd
  rw [if_pos hi]
  split
  · have := hf.2.2.2.1 i j i0 hij (by assumption)
    omega
  · obtain ⟨k, -, -, k3, -, -⟩ := hf.2.2.1 i i0 hi
    have := MW_b hW k
    omega
theorem hd_le {σ : l2_m} {a : Nat} {W f : Int → Int} {m : Int} (hf : PR σ a W f) (hW : okW W) (m0 : 0 ≤ m) {i j : Int} (i0 : 0 ≤ i) (hij : i ≤ j) (hj : j < σ a 2) : σ (a + 1) j + m ≤ hd σ a m i := by
  unfold hd
  rw [if_pos (by omega)]
  by_cases e : i = j
  · subst e; exact Int.le_refl _
  · have := hf.2.2.2.1 i j i0 (by omega) hj
    omega
/-- one side's share of the term at a mark -/
theorem side_val {σ : l2_m} {a : Nat} {W f : Int → Int} {d k i M : Int} (hf : PR σ a W f) (hW : okW W) (d0 : 0 ≤ d) (d1 : d < 4096) (k0 : 0 ≤ k) (k1 : k < 4096) (i0 : 0 ≤ i) (i1 : i ≤ σ a 2) (hk : MW W k = M) (hM : hd σ a (MW W d) i ≤ M) (hpr : ∀ i' : Int, 0 ≤ i' → i' < i → M < σ (a + 1) i' + MW W d) : shf d f k = if hd σ a (MW W d) i = M then σ (a + 2) i else 0 := by
  have m0 := (MW_b hW d).1
  by_cases hl : hd σ a (MW W d) i = M
  · rw [if_pos hl]
    have hi : i < σ a 2 := by
      apply Classical.byContradiction
      intro hi
      unfold hd at hl
      rw [if_neg hi] at hl
      have := MW_b hW k
      omega
    obtain ⟨l, l1, l2, l3, l4, l5⟩ := hf.2.2.1 i i0 hi
    unfold hd at hl
    rw [if_pos hi, l3] at hl
    have hno : noO l d := (MW_ov W l d (by have := MW_b hW l; omega)).mp (by
      rw [hl, ← hk, iand_ov _ (MW_b hW k).1]
      have e := MW_e W k
      rw [e5_0, e5_1, e5_2] at e
      rw [e.1, e.2.1, e.2.2]
      have := e4_b k 0
      have := e4_b k 1
      have := e4_b k 2
      omega)
    rw [← MW_add l1 l2 d0 d1 hno, ← hk] at hl
    have ha := add_e l1 l2 d0 d1 hno
    have := MW_inj ha.1 ha.2.1 k0 k1 hl
    rw [← this, shf_add f l1 l2 d0 d1 hno, l4]
  · rw [if_neg hl]
    apply Classical.byContradiction
    intro hs
    obtain ⟨j, j1, j2, j3⟩ := side_src hf d0 d1 k0 k1 hs
    by_cases hji : j < i
    · have := hpr j j1 hji
      omega
    · have := hd_le hf hW m0 i0 (show i ≤ j by omega) j2
      omega
/-- the key of the next mark, where no exponent is too great -/
theorem side_key {σ : l2_m} {a : Nat} {W f : Int → Int} {d i M : Int} (hf : PR σ a W f) (hW : okW W) (d0 : 0 ≤ d) (d1 : d < 4096) (i0 : 0 ≤ i) (hM : hd σ a (MW W d) i = M) (M0 : 0 ≤ M) : ∃ l : Int, 0 ≤ l ∧ l < 4096 ∧ i < σ a 2 ∧ σ (a + 1) i = MW W l ∧ f l ≠ 0 ∧ M = MW W l + MW W d ∧ (iand M 16912 = 0 ↔ noO l d) := by
  have hi : i < σ a 2 := by
    apply Classical.byContradiction
    intro hi
    unfold hd at hM
    rw [if_neg hi] at hM
    omega
  obtain ⟨l, l1, l2, l3, l4, l5⟩ := hf.2.2.1 i i0 hi
  unfold hd at hM
  rw [if_pos hi, l3] at hM
  exact ⟨l, l1, l2, hi, l3, l5, hM.symm, by rw [← hM]; exact MW_ov W l d (by have := MW_b hW l; have := MW_b hW d; omega)⟩
