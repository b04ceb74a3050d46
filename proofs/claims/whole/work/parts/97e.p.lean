/-! ===== Commons: startBuilding ===== -/
theorem c39 {B : va_E} {σ : l2_m} {K : Int → l2_m → Prop} {p : Int} (hp : isPr p) (hF : FOK hp σ) (hK : ∀ τ : l2_m, (∀ b j, b ≠ 120 → b ≠ 125 → ¬ (b = 109 ∧ j = 17) → τ b j = σ b j) → (∀ n : Int, 0 ≤ n → n < 512 → τ 120 n = (gQ p : Int)) → τ 125 0 = cod hp (gqS (pr_pos hp) 1 (gqE (pr_pos hp)) : gE p) → (∀ n : Int, 0 < n → n < 32 → τ 125 n = (gQ p : Int)) → τ 109 17 = 0 → K 0 τ) : wC B 39 [vr 109] σ K := by
  obtain ⟨p2, p97, -⟩ := pr_rest _ hp
  refine o39 ?_
  unfold w39
  intro s1 es1 s2 es2
  have h7 := hF.2.2.2.2.1
  have f1 : ∀ b j, b ≠ 120 → s1 b j = σ b j := fun b j w => by rw [es1]; unfold fil; rw [if_neg (fun h => w h.1)]
  have f2 : ∀ b j, b ≠ 125 → s2 b j = s1 b j := fun b j w => by rw [es2]; unfold fil; rw [if_neg (fun h => w h.1)]
  have hF2 : FOK hp s2 := FOK_cg hF (fun b j b0 b1 => by rw [f2 b j (by omega), f1 b j (by omega)])
  refine ⟨⟨by rw [hF2.1]; omega, by rw [hF2.1]; omega⟩, ?_⟩
  intro s3 es3 s4 es4
  rw [fofn_n hF2 (by decide) (by omega)] at es3
  have e4 : ∀ b j, ¬ (b = 109 ∧ j = 17) → s4 b j = s3 b j := fun b j w => by rw [es4]; unfold l2_u; rw [if_neg w]
  refine hK s4 (fun b j w w' w'' => ?_) (fun n n0 n1 => ?_) ?_ (fun n n0 n1 => ?_) (by rw [es4, l2_u_self])
  · rw [e4 b j w'', es3, l2_u_ne w', f2 b j w', f1 b j w]
  · rw [e4 120 n (fun h => absurd h.1 (by decide)), es3, l2_u_ne (by decide), f2 120 n (by decide), es1]
    unfold fil
    rw [if_pos ⟨rfl, n0, n1⟩]
    exact h7
  · rw [e4 125 0 (fun h => absurd h.1 (by decide)), es3, l2_u_self]
  · rw [e4 125 n (fun h => absurd h.1 (by decide)), es3, l2_u_nj (by omega), es2]
    unfold fil
    rw [if_pos ⟨rfl, by omega, n1⟩, f1 110 7 (by decide)]
    exact h7
