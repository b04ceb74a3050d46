/-! ===== Commons: evaluate ===== -/
theorem FOK_cg {p : Int} {hp : isPr p} {σ τ : l2_m} (h : FOK hp σ) (e : ∀ b j, 110 ≤ b → b ≤ 113 → τ b j = σ b j) : FOK hp τ := by
  obtain ⟨h3, h4, h5, h6, h7, h11, h12, h13⟩ := h
  exact ⟨by rw [e 110 3 (by decide) (by decide)]; exact h3, by rw [e 110 4 (by decide) (by decide)]; exact h4, by rw [e 110 5 (by decide) (by decide)]; exact h5, by rw [e 110 6 (by decide) (by decide)]; exact h6, by rw [e 110 7 (by decide) (by decide)]; exact h7, fun a => by rw [e 111 _ (by decide) (by decide)]; exact h11 a, fun v hv => by rw [e 112 _ (by decide) (by decide)]; exact h12 v hv, fun n n0 n1 => by rw [e 113 _ (by decide) (by decide)]; exact h13 n n0 n1⟩
noncomputable def rwv {p : Int} (hp : isPr p) (u : Int → Int) (i : Int) (j : Nat) : gE p := gqS (pr_pos hp) (u (i * 32 + j)) (gqE (pr_pos hp))
theorem c37 {B : va_E} {σ : l2_m} {K : Int → l2_m → Prop} {p : Int} (hp : isPr p) (hF : FOK hp σ) {o1 o3 : Nat} (ho1 : l2_al o1 = some 512) (ho3 : l2_al o3 = some 16) (n1 : o1 ≠ o3) (n3 : 113 < o3) (hv : ∀ n : Int, 0 ≤ n → n < 512 → 0 ≤ σ o1 n ∧ σ o1 n < p) (α : gE p) (hK : ∀ τ : l2_m, (∀ b j, b ≠ o3 → τ b j = σ b j) → (∀ i : Int, 0 ≤ i → i < 16 → τ o3 i = cod hp (hnr (gqA (pr_pos hp)) (gqP (pr_pos hp) (gt p) (gQ p)) (gqO (pr_pos hp)) (rwv hp (σ o1) i) α 16 16)) → K 0 τ) : wC B 37 [vr 109, vr o1, vi (cod hp α), vr o3] σ K := by
  obtain ⟨p2, p97, -⟩ := pr_rest _ hp
  refine o37 ho1 ho3 ?_
  unfold w37 w37_3
  refine lz2_inv (fun (x : Int) s => 0 ≤ x ∧ x ≤ 16 ∧ (∀ b j, b ≠ o3 → s b j = σ b j) ∧ (∀ i : Int, 0 ≤ i → i < x → s o3 i = cod hp (hnr (gqA (pr_pos hp)) (gqP (pr_pos hp) (gt p) (gQ p)) (gqO (pr_pos hp)) (rwv hp (σ o1) i) α 16 16))) (fun x _ => 16 - x) ?_ ⟨by decide, by decide, fun _ _ _ => rfl, fun i _ _ => by omega⟩
  intro Z x s hZ ⟨x0, x1, s0, s1⟩
  refine ⟨⟨by omega, by omega⟩, ?_⟩
  by_cases hx : x < 16
  · rw [if_pos hx]
    intro x5 ex5
    have hFs : FOK hp s := FOK_cg hF (fun b j _ _ => s0 b j (by omega))
    obtain ⟨h7, q9, hr⟩ := FOK_r hFs
    have h12 := hFs.2.2.2.2.2.2.1
    obtain ⟨v, ev'⟩ : ∃ v : Nat → gE p, v = rwv hp (σ o1) x := ⟨_, rfl⟩
    unfold w37_23
    refine lz2_inv (fun (w y : Int) => -1 ≤ y ∧ y ≤ 15 ∧ w = cod hp (hnr (gqA (pr_pos hp)) (gqP (pr_pos hp) (gt p) (gQ p)) (gqO (pr_pos hp)) v α 16 (15 - y).toNat)) (fun _ y => y + 1) ?_ ⟨by decide, by decide, by rw [ex5, h7]; exact (cod_0 hp).symm⟩
    intro X w y hX ⟨y0, y1, ex⟩
    refine ⟨⟨by omega, by omega⟩, ?_⟩
    by_cases hy : y < 0
    · rw [if_pos hy]
      refine ⟨⟨x0, hx⟩, ?_⟩
      intro z ez
      refine hZ _ z ⟨by omega, by omega, fun b j h => by rw [ez, l2_u_ne h]; exact s0 b j h, fun i i0 i1 => ?_⟩ (by omega)
      by_cases hi : i = x
      · rw [ez, hi, l2_u_self, ex, ev', show (15 - y).toNat = 16 by omega]
      · rw [ez, l2_u_nj hi]; exact s1 i i0 (by omega)
    · rw [if_neg hy]
      have b1 := cod_b hp (hnr (gqA (pr_pos hp)) (gqP (pr_pos hp) (gt p) (gQ p)) (gqO (pr_pos hp)) v α 16 (15 - y).toNat)
      have b2 := cod_b hp α
      have b3 := cod_b hp (v y.toNat)
      have c0 := hv (x * 32 + y) (by omega) (by omega)
      have e1 := fofn_n hFs c0.1 c0.2
      have e1' : (gqS (pr_pos hp) (σ o1 (x * 32 + y)) (gqE (pr_pos hp)) : gE p) = v y.toNat := by
        rw [ev']
        unfold rwv
        rw [show ((y.toNat : Nat) : Int) = y by omega]
      rw [e1'] at e1
      have e2 := cod_mul hp (hnr (gqA (pr_pos hp)) (gqP (pr_pos hp) (gt p) (gQ p)) (gqO (pr_pos hp)) v α 16 (15 - y).toNat) α
      have b4 := cod_b hp (gqP (pr_pos hp) (gt p) (gQ p) (hnr (gqA (pr_pos hp)) (gqP (pr_pos hp) (gt p) (gQ p)) (gqO (pr_pos hp)) v α 16 (15 - y).toNat) α)
      rw [← ex] at e2 b1
      rw [h7] at hr ⊢
      rw [hFs.1, s0 o1 _ n1, e1, e2]
      refine ⟨⟨by omega, by omega, ⟨by omega, by omega⟩, by omega, by omega⟩, ?_⟩
      intro x7 ex7
      rw [ex7]
      refine ⟨⟨b1.1, b1.2, b2.1, b2.2, by omega, b4.1, b4.2, b3.1, b3.2, q9, hr⟩, ?_⟩
      intro w' ew'
      rw [cod_add hp h12] at ew'
      refine hX _ _ ⟨by omega, by omega, ?_⟩ (by omega)
      rw [ew', show (15 - (y + -1)).toNat = (15 - y).toNat + 1 by omega, hnr_s, show 16 - 1 - (15 - y).toNat = y.toNat by omega]
  · rw [if_neg hx]
    exact hK s s0 (fun i i0 i1 => s1 i i0 (by omega))
