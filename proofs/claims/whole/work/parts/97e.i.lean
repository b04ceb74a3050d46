/-! ===== Commons: topY, load ===== -/
theorem c33 {B : va_E} {σ : l2_m} {K : Int → l2_m → Prop} {o0 : Nat} (ho0 : l2_al o0 = some 512) (hr : ∀ n : Int, 0 ≤ n → n < 512 → rg (σ o0 n)) (hK : ∀ h : Int, 0 ≤ h → h < 32 → (∀ n : Int, 0 ≤ n → n < 512 → σ o0 n ≠ 0 → n % 32 ≤ h) → (h = 0 ∨ ∃ n : Int, 0 ≤ n ∧ n < 512 ∧ σ o0 n ≠ 0 ∧ n % 32 = h) → K h σ) : wC B 33 [vr o0] σ K := by
  refine o33 ho0 ?_
  unfold w33 w33_4
  refine lz2_inv (fun (h x : Int) => 0 ≤ x ∧ x ≤ 512 ∧ 0 ≤ h ∧ h < 32 ∧ (∀ n : Int, 0 ≤ n → n < x → σ o0 n ≠ 0 → n % 32 ≤ h) ∧ (h = 0 ∨ ∃ n : Int, 0 ≤ n ∧ n < 512 ∧ σ o0 n ≠ 0 ∧ n % 32 = h)) (fun _ x => 512 - x) ?_ ⟨by decide, by decide, by decide, by decide, fun n _ _ => by omega, Or.inl rfl⟩
  intro X h x hX ⟨x0, x1, h0, h1, h2, h3⟩
  refine ⟨⟨by omega, by omega⟩, ?_⟩
  by_cases hx : x < 512
  · rw [if_pos hx]
    refine ⟨⟨x0, hx, hr x x0 hx⟩, ?_⟩
    by_cases hc : σ o0 x = 0
    · rw [if_pos hc]
      refine hX _ _ ⟨by omega, by omega, h0, h1, fun n n0 n1 hn => ?_, h3⟩ (by omega)
      by_cases hnx : n = x
      · rw [hnx] at hn; exact absurd hc hn
      · exact h2 n n0 (by omega) hn
    · rw [if_neg hc]
      refine ⟨⟨by omega, by omega⟩, ?_⟩
      intro h' e'
      refine hX _ _ ⟨by omega, by omega, by omega, by omega, fun n n0 n1 hn => ?_, ?_⟩ (by omega)
      · by_cases hnx : n = x
        · rw [hnx]; omega
        · have := h2 n n0 (by omega) hn
          omega
      · rcases Int.lt_or_le h (x % 32) with w | w
        · exact Or.inr ⟨x, x0, hx, hc, by omega⟩
        · rw [show h' = h by omega]; exact h3
  · rw [if_neg hx]
    exact hK h h0 h1 (fun n n0 n1 hn => h2 n n0 (by omega) hn) h3
theorem c23 {B : va_E} {σ : l2_m} {K : Int → l2_m → Prop} {o1 o2 : Nat} {W f : Int → Int} (hW : okW W) (ho1 : isP o1) (ho2 : l2_al o2 = some 512) (n0 : o1 ≠ o2) (n1 : o1 + 1 ≠ o2) (n2 : o1 + 2 ≠ o2) (hP : PR σ o1 W f) (hz : ∀ k : Int, 256 ≤ k → k < 4096 → f k = 0) (hK : ∀ τ : l2_m, (∀ b j, b ≠ o2 → τ b j = σ b j) → (∀ n : Int, 0 ≤ n → n < 512 → τ o2 n = if n % 32 < 16 then f (n / 32 + 16 * (n % 32)) else 0) → K 0 τ) : wC B 23 [vr 109, vr o1, vr o2] σ K := by
  obtain ⟨a0, a1, a2, a3, a4⟩ := hP
  refine o23 ho1 ho2 ?_
  unfold w23
  intro s1 es1
  have f1 : ∀ q j, q ≠ o2 → s1 q j = σ q j := fun q j w => by rw [es1]; unfold fil; rw [if_neg (fun h => w h.1)]
  have f3 : ∀ n : Int, 0 ≤ n → n < 512 → s1 o2 n = 0 := fun n h h' => by rw [es1]; unfold fil; rw [if_pos ⟨rfl, by omega, by omega⟩]
  have kk : ∀ i : Int, 0 ≤ i → i < σ o1 2 → ∃ k : Int, 0 ≤ k ∧ k < 256 ∧ σ (o1 + 1) i = MW W k ∧ σ (o1 + 2) i = f k ∧ f k ≠ 0 := fun i h h' => by
    obtain ⟨k, k0, k1, k2, k3, k4⟩ := a2 i h h'
    rcases Int.lt_or_le k 256 with w | w
    · exact ⟨k, k0, w, k2, k3, k4⟩
    · exact absurd (hz k w k1) k4
  unfold w23_7
  refine lz2_inv (fun (x : Int) s => 0 ≤ x ∧ x ≤ σ o1 2 ∧ (∀ b j, b ≠ o2 → s b j = σ b j) ∧ (∀ n : Int, 0 ≤ n → n < 512 → s o2 n = 0 ∨ (n % 32 < 16 ∧ s o2 n = f (n / 32 + 16 * (n % 32)))) ∧ (∀ (i k : Int), 0 ≤ i → i < x → 0 ≤ k → k < 256 → σ (o1 + 1) i = MW W k → s o2 (k % 16 * 32 + k / 16) = f k)) (fun x _ => σ o1 2 - x) ?_ ⟨by decide, by omega, f1, fun n h h' => Or.inl (f3 n h h'), fun i k _ _ => by omega⟩
  intro X x s hX ⟨x0, x1, s0, s1', s2⟩
  rw [s0 o1 2 n0]
  refine ⟨⟨⟨by omega, by omega⟩, ⟨by omega, by omega⟩⟩, ?_⟩
  by_cases hx : x < σ o1 2
  · rw [if_pos hx]
    refine ⟨⟨x0, by omega⟩, ?_⟩
    intro x4 e4'
    obtain ⟨k, k0, k1, k2, k3, k4⟩ := kk x x0 hx
    rw [s0 (o1 + 1) x n1, k2] at e4'
    rw [e4']
    refine ⟨MW_rg hW k, ?_⟩
    intro x5 e5'
    rw [(MW_e W k).1, (MW_e W k).2.1, e4_0, e4_1] at e5'
    have e5 : x5 = k % 16 * 32 + k / 16 := by omega
    clear e5'
    have q0 : 0 ≤ k / 16 ∧ k / 16 < 16 := by omega
    have q1 : x5 % 32 = k / 16 := by
      rw [e5]
      generalize k / 16 = w at q0 ⊢
      omega
    refine ⟨⟨by omega, by omega⟩, ?_⟩
    intro z ez
    rw [s0 (o1 + 2) x n2, k3] at ez
    refine hX _ z ⟨by omega, by omega, fun b j w => by rw [ez, l2_u_ne w]; exact s0 b j w, fun n h h' => ?_, fun i l i0 i1 l0 l1 hl => ?_⟩ (by omega)
    · by_cases hn : n = x5
      · right
        refine ⟨by rw [hn, q1]; exact q0.2, ?_⟩
        rw [ez, hn, l2_u_self, show x5 / 32 + 16 * (x5 % 32) = k by omega]
      · rw [ez, l2_u_nj hn]; exact s1' n h h'
    · by_cases hn : l % 16 * 32 + l / 16 = x5
      · rw [ez, hn, l2_u_self, show l = k by omega]
      · rw [ez, l2_u_nj hn]
        by_cases hi : i = x
        · exfalso
          rw [hi, k2] at hl
          have h1 := (MW_e W k).1
          have h2 := (MW_e W k).2.1
          rw [hl, (MW_e W l).1, e4_0, e4_0] at h1
          rw [hl, (MW_e W l).2.1, e4_1, e4_1] at h2
          omega
        · exact s2 i l i0 (by omega) l0 l1 hl
  · rw [if_neg hx]
    refine hK s s0 (fun n h h' => ?_)
    by_cases hc : n % 32 < 16
    · rw [if_pos hc]
      by_cases hf : f (n / 32 + 16 * (n % 32)) = 0
      · rcases s1' n h h' with w | w
        · rw [w, hf]
        · exact w.2
      · obtain ⟨i, i0, i1, i2⟩ := a4 (n / 32 + 16 * (n % 32)) (by omega) (by omega) hf
        have := s2 i (n / 32 + 16 * (n % 32)) i0 (by omega) (by omega) (by omega) i2
        rw [show (n / 32 + 16 * (n % 32)) % 16 * 32 + (n / 32 + 16 * (n % 32)) / 16 = n by omega] at this
        exact this
    · rw [if_neg hc]
      rcases s1' n h h' with w | w
      · exact w
      · omega
