/-! ===== a set of divisors on the class's side ===== -/
theorem c153 {B : va_E} {σ : l2_m} {K : Int → l2_m → Prop} {W : Int → Int} {set : Int} {G : Int → Int → Int} (hd : σ 32 5 = 1) (hs : rg set) (hG : ∀ d : Int, 0 ≤ d → d < 8 → PR σ (162 + 3 * Int.toNat d) W (G d)) (h2 : ¬ (1 ≤ set ∧ set ≤ 255) → K 2 σ) (h5 : (1 ≤ set ∧ set ≤ 255) → (∃ d : Int, 0 ≤ d ∧ d < 8 ∧ bit set d = 1 ∧ cnt (G d) 4096 = 0) → K 5 σ) (h0 : (1 ≤ set ∧ set ≤ 255) → (∀ d : Int, 0 ≤ d → d < 8 → bit set d = 1 → cnt (G d) 4096 ≠ 0) → K 0 σ) : wC B 153 [vr 32, vi set] σ K := by
  refine o153 ?_
  unfold w153
  rw [hd]
  refine ⟨by decide, ?_⟩
  rw [if_neg (by decide)]
  refine ⟨hs, ?_⟩
  by_cases hb : set < 1 ∨ 255 < set
  · rw [if_pos hb]
    exact h2 (by omega)
  · rw [if_neg hb]
    have hin : 1 ≤ set ∧ set ≤ 255 := by omega
    unfold w153_25
    refine lz1_inv (fun i => 0 ≤ i ∧ i ≤ 8 ∧ ∀ d : Int, 0 ≤ d → d < i → bit set d = 1 → cnt (G d) 4096 ≠ 0) (fun i => 8 - i) ?_ ⟨by decide, by decide, fun d d0 d1 => by omega⟩
    intro X i hX ⟨i0, i1, hI⟩
    refine ⟨⟨by omega, by omega⟩, ?_⟩
    by_cases hi : i < 8
    · rw [if_pos hi]
      have hp := hG i i0 hi
      have e0 := hp.1
      have e1 := hp.2.1
      have ec := PR_cnt hp
      refine ⟨⟨hs, i0, by omega⟩, fun _ => ⟨hi, ⟨by omega, by omega⟩⟩, ?_⟩
      by_cases hc : bit set i = 1 ∧ σ (162 + 3 * Int.toNat i) 2 = 0
      · rw [if_pos hc]
        exact h5 hin ⟨i, i0, hi, hc.1, ec.trans hc.2⟩
      · rw [if_neg hc]
        refine hX (i + 1) ⟨by omega, by omega, fun d d0 d1 db => ?_⟩ (by omega)
        by_cases hdi : d = i
        · rw [hdi] at db ⊢
          intro w
          exact hc ⟨db, ec.symm.trans w⟩
        · exact hI d d0 (by omega) db
    · rw [if_neg hi]
      exact h0 hin (fun d d0 d1 db => hI d d0 (by omega) db)
