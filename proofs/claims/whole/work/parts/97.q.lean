/-! ===== rest ===== -/
theorem r250l {B : va_E} {ρ : l2_m} {Q : Int → l2_m → Prop} {k : Int} (h : ∀ s : l2_m, (∀ b j, b ≠ 192 → s b j = ρ b j) → (∀ j : Int, 0 ≤ j → j < 4096 → s 192 j = ρ 194 j) → wC B 240 [vr 186, vi k] s Q) : w250_59 B ρ k 0 Q := by
  unfold w250_59
  refine lz2_inv (fun (i : Int) s => 0 ≤ i ∧ i ≤ 4096 ∧ (∀ b j, b ≠ 192 → s b j = ρ b j) ∧ (∀ j : Int, 0 ≤ j → j < i → s 192 j = ρ 194 j)) (fun i _ => 4096 - i) ?_ ⟨by decide, by decide, fun _ _ _ => rfl, fun j j0 j1 => by omega⟩
  intro X i s hX ⟨i0, i1, s1, s2⟩
  refine ⟨⟨by omega, by omega⟩, ?_⟩
  by_cases hi : i < 4096
  · rw [if_pos hi]
    refine ⟨⟨i0, hi⟩, ?_⟩
    intro s' es
    refine hX (i + 1) s' ⟨by omega, by omega, fun b j z => by rw [es, l2_u_ne z]; exact s1 b j z, fun j j0 j1 => ?_⟩ (by omega)
    by_cases hj : j = i
    · rw [es, hj]
      unfold l2_u
      rw [if_pos ⟨rfl, rfl⟩]
      exact s1 194 i (by decide)
    · rw [es, l2_u_nj hj]
      exact s2 j j0 (by omega)
  · rw [if_neg hi]
    exact h s s1 (fun j j0 j1 => s2 j j0 (by omega))
