/-! ===== divide on the reference's side ===== -/
section RD
variable {B : va_E} {σ υ : l2_m} {K : Int → l2_m → Prop} {r set : Int}
theorem r233 (hR : RWF σ) (ht : σ 186 14 = 1) (hυ : ∀ b j, 186 ≤ b → ¬ (b = 186 ∧ j = 0) → υ b j = σ b j) (hr : rg r) (hs : rg set) (h1 : ¬ (0 ≤ r ∧ r < 8) → K 1 υ) (h2 : (0 ≤ r ∧ r < 8) → ¬ (1 ≤ set ∧ set ≤ 255) → K 2 υ) (h5 : (0 ≤ r ∧ r < 8) → (1 ≤ set ∧ set ≤ 255) → (∃ d : Int, 0 ≤ d ∧ d < 8 ∧ bit set d = 1 ∧ cnt (regR σ d) 4096 = 0) → K 5 υ) (h0 : (0 ≤ r ∧ r < 8) → (1 ≤ set ∧ set ≤ 255) → (∀ d : Int, 0 ≤ d → d < 8 → bit set d = 1 → cnt (regR σ d) 4096 ≠ 0) → K 0 υ) : wC B 233 [vr 186, vi r, vi set] υ K := by
  obtain ⟨b1, b2, b3, b4, b5, b6⟩ := hR.2.2.2.2.2.2.2.2.2 ht
  obtain ⟨p2, p97, -⟩ := pr_rest _ b1
  have e187 : ∀ q j : Int, υ 187 (4096 * q + j) = σ 187 (4096 * q + j) := fun q j => hυ 187 _ (by decide) (by omega)
  have er : ∀ q, regR υ q = regR σ q := fun q => funext (fun j => e187 q j)
  refine o233 ?_
  unfold w233
  rw [hυ 186 14 (by decide) (by omega), ht]
  refine ⟨⟨hr, Or.inr rfl⟩, ?_⟩
  by_cases hc : 0 ≤ r ∧ r < 8
  · rw [if_pos ⟨rfl, hc⟩]
    refine r229 (p := σ 186 5) hs p97 (fun q j q0 q1 j0 j1 => by rw [e187]; exact b3 q j q0 q1 j0 j1) (h2 hc) (fun w v => h5 hc w ?_) (fun w v => h0 hc w (fun d d0 d1 db => by rw [← er]; exact v d d0 d1 db))
    obtain ⟨d, d0, d1, d2, d3⟩ := v
    exact ⟨d, d0, d1, d2, by rw [← er]; exact d3⟩
  · rw [if_neg (fun w => hc w.2)]
    exact h1 hc
theorem rdv (hR : RWF σ) (ht : σ 186 14 = 1) (hυ : ∀ b j, 186 ≤ b → ¬ (b = 186 ∧ j = 0) → υ b j = σ b j) (r0 : 0 ≤ r) (r1 : r < 8) (hs : rg set) (hl : ∀ d : Int, 0 ≤ d → d < 8 → bit set d = 1 → isLead (ordA σ) (regR σ d) (lkF (ordA σ) (regR σ d))) (h1 : ∀ (τ : l2_m) (n : Nat) (s : dst), (∀ b j, b ≠ 192 → (b < 193 ∨ 198 < b) → ¬ (b = 186 ∧ (j = 29 ∨ (36 ≤ j ∧ j ≤ 39))) → τ b j = υ b j) → τ 186 29 = 1 → dOK (σ 186 5) (ordA σ) set (regR σ) (fun d => lkF (ordA σ) (regR σ d)) (fun d => ivp (σ 186 5) (regR σ d (lkF (ordA σ) (regR σ d)))) (regR σ r) n s → dvT τ s n → dGood (σ 186 5) (ordA σ) (fun d => lkF (ordA σ) (regR σ d)) s → K 1 τ) (h0 : ∀ τ : l2_m, (∀ b j, b ≠ 192 → (b < 193 ∨ 198 < b) → ¬ (b = 186 ∧ (j = 29 ∨ (36 ≤ j ∧ j ≤ 39))) → τ b j = υ b j) → dNO (σ 186 5) (ordA σ) set (regR σ) (fun d => lkF (ordA σ) (regR σ d)) (fun d => ivp (σ 186 5) (regR σ d (lkF (ordA σ) (regR σ d)))) (regR σ r) → K 0 τ) : wC B 227 [vr 186, vi r] υ (fun _ s => wC B 231 [vr 186, vi set] s K) := by
  obtain ⟨b1, b2, b3, b4, b5, b6⟩ := hR.2.2.2.2.2.2.2.2.2 ht
  refine r227 r0 r1 ?_
  intro τ t1 t2 t3
  have e187 : ∀ q j : Int, τ 187 (4096 * q + j) = σ 187 (4096 * q + j) := fun q j => by rw [t1 187 _ (by decide) (by omega)]; exact hυ 187 _ (by decide) (by omega)
  have e190 : ∀ j : Int, τ 190 j = σ 190 j := fun j => by rw [t1 190 _ (by decide) (by omega)]; exact hυ 190 _ (by decide) (by omega)
  have er : regR τ = regR σ := funext (fun q => funext (fun j => e187 q j))
  have eu : regR υ r = regR σ r := funext (fun j => hυ 187 _ (by decide) (by omega))
  refine r231 (W := ordA σ) (p := σ 186 5) (f := regR σ r) (lk := fun d => lkF (ordA σ) (regR σ d)) (wt_ok _ _ _) (by rw [t1 186 5 (by decide) (by omega)]; exact hυ 186 5 (by decide) (by omega)) b1 hs (fun q j q0 q1 j0 j1 => by rw [e187]; exact b3 q j q0 q1 j0 j1) ⟨fun i x0 x1 => by rw [e190]; exact b5.1 i x0 x1, fun i j x0 x1 x2 => by rw [e190, e190]; exact b5.2.1 i j x0 x1 x2, fun j x0 x1 => by obtain ⟨i, y0, y1, y2⟩ := b5.2.2 j x0 x1; exact ⟨i, y0, y1, by rw [e190]; exact y2⟩⟩ (fun k k0 k1 => by rw [t2 k k0 k1, eu]) (fun k k0 k1 => b3 r k r0 r1 k0 k1) (fun d d0 d1 db => by rw [er]; exact hl d d0 d1 db) (fun ρ n s v1 v2 v3 v4 => ?_) (fun ρ v1 v2 => ?_)
  · rw [er] at v2
    exact h1 ρ n s (fun b j z1 z2 z3 => by rw [v1 b j z2 (by omega)]; exact t1 b j z1 (by omega)) (by rw [v1 186 29 (by omega) (by omega)]; exact t3) v2 v3 v4
  · rw [er] at v2
    exact h0 ρ (fun b j z1 z2 z3 => by rw [v1 b j z2 (by omega)]; exact t1 b j z1 (by omega)) v2
end RD
