/-! ===== places only grow ===== -/
section MO
variable {T : Int → Int} {n : Int}
theorem trmL_mono : ∀ (f : Nat) (s told key : Int), s ≤ n → (trmL T n f s told key).1 = 0 → s ≤ (trmL T n f s told key).2.1 ∧ (trmL T n f s told key).2.1 ≤ n
  | 0, s, told, key, hs, _ => ⟨Int.le_refl _, hs⟩
  | f + 1, s, told, key, hs, h => by
    unfold trmL at h ⊢
    have b1 := tE_b (T := T) hs
    have b2 := tE_b (T := T) (n := n) (s := tE T n s) (by omega)
    by_cases c1 : unkF T n s = -1
    · rw [if_pos c1]; exact ⟨Int.le_refl _, hs⟩
    · rw [if_neg c1] at h ⊢
      by_cases c2 : bit told (unkF T n s) = 1
      · rw [if_pos c2] at h; exact absurd h (by decide : ¬ (3 : Int) = 0)
      · rw [if_neg c2] at h ⊢
        by_cases c3 : tK T n (tE T n s) = 2
        · rw [if_pos c3] at h ⊢
          by_cases c4 : 1 ≤ tV T n (tE T n s) ∧ tV T n (tE T n s) ≤ 15
          · rw [if_pos c4] at h ⊢
            have := trmL_mono f _ _ _ (by omega) h
            omega
          · rw [if_neg c4] at h; exact absurd h (by decide : ¬ (4 : Int) = 0)
        · rw [if_neg c3] at h ⊢
          have := trmL_mono f _ _ _ (by omega) h
          omega
theorem trm_mono {s : Int} (hs : s ≤ n) (h : (trm T n s).1 = 0) : s ≤ (trm T n s).2.1 ∧ (trm T n s).2.1 ≤ n := by
  have b1 := tE_b (T := T) hs
  unfold trm at h ⊢
  by_cases c1 : tK T n s = 2
  · rw [if_pos c1] at h ⊢
    have := trmL_mono (T := T) (n := n) 4 (tE T n s) 0 0 (by omega) h
    exact ⟨by show s ≤ (trmL T n 4 (tE T n s) 0 0).2.1; omega, this.2⟩
  · rw [if_neg c1] at h ⊢
    by_cases c2 : unkF T n s = -1
    · rw [if_pos c2] at h; exact absurd h (by decide : ¬ (1 : Int) = 0)
    · rw [if_neg c2] at h ⊢
      exact trmL_mono (T := T) (n := n) 4 s 0 0 hs h
theorem plyL_mono (p : Int) : ∀ (f : Nat) (s neg : Int) (g : Int → Int), s ≤ n → (plyL T n p f s neg g).1 = 0 → s ≤ (plyL T n p f s neg g).2.1
  | 0, s, neg, g, hs, _ => Int.le_refl _
  | f + 1, s, neg, g, hs, h => by
    unfold plyL at h ⊢
    by_cases c1 : (trm T n s).1 ≠ 0
    · rw [if_pos c1] at h; exact absurd h c1
    · rw [if_neg c1] at h ⊢
      have ht := trm_mono (T := T) hs (Classical.not_not.mp c1)
      by_cases c2 : sgS T n (trm T n s).2.1 43 ∨ sgS T n (trm T n s).2.1 45
      · rw [if_pos c2] at h ⊢
        by_cases c3 : f = 0
        · rw [if_pos c3] at h; exact absurd h (by decide : ¬ (5 : Int) = 0)
        · rw [if_neg c3] at h ⊢
          have b1 := tE_b (T := T) (n := n) (s := (trm T n s).2.1) ht.2
          have := plyL_mono p f _ _ _ (by omega) h
          omega
      · rw [if_neg c2]; exact ht.1
theorem ply_mono {p s : Int} (hs : s ≤ n) (h : (ply T n p s).1 = 0) : s ≤ (ply T n p s).2.1 := by
  have b1 := tE_b (T := T) hs
  have b2 := tE_b (T := T) (n := n) (s := tE T n s) (by omega)
  unfold ply at h ⊢
  by_cases c : sgS T n (tE T n s) 45
  · rw [if_pos c] at h ⊢
    have := plyL_mono p 12 _ _ _ (by omega) h
    omega
  · rw [if_neg c] at h ⊢
    have := plyL_mono p 12 _ _ _ (by omega) h
    omega
end MO
