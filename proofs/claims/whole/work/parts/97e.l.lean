/-! ===== Commons: rows of numbers at an element ===== -/
theorem fofn_n {p : Int} {hp : isPr p} {σ : l2_m} (h : FOK hp σ) {n : Int} (n0 : 0 ≤ n) (n1 : n < p) : fofn σ n = cod hp (gqS (pr_pos hp) n (gqE (pr_pos hp)) : gE p) := by
  unfold fofn
  rw [h.1, if_pos ⟨n0, n1⟩]
  have h1 := h.2.2.2.2.2.1 (gqS (pr_pos hp) n (gqE (pr_pos hp)))
  rw [enc_num hp n0 n1] at h1
  exact h1
theorem c41 {B : va_E} {σ : l2_m} {K : Int → l2_m → Prop} {p : Int} (hp : isPr p) (hF : FOK hp σ) (hv : ∀ i : Int, 0 ≤ i → i < 32 → 0 ≤ σ 123 i ∧ σ 123 i < p) (α : gE p) (hK : K (cod hp (hnr (gqA (pr_pos hp)) (gqP (pr_pos hp) (gt p) (gQ p)) (gqO (pr_pos hp)) (fun i : Nat => gqS (pr_pos hp) (σ 123 (i : Int)) (gqE (pr_pos hp))) α 32 32)) σ) : wC B 41 [vr 109, vi (cod hp α)] σ K := by
  obtain ⟨h7, q9, hr⟩ := FOK_r hF
  obtain ⟨p2, p97, -⟩ := pr_rest _ hp
  have h12 := hF.2.2.2.2.2.2.1
  refine o41 ?_
  unfold w41
  intro x4 ex4
  obtain ⟨v, ev'⟩ : ∃ v : Nat → gE p, v = fun i : Nat => gqS (pr_pos hp) (σ 123 (i : Int)) (gqE (pr_pos hp)) := ⟨_, rfl⟩
  rw [← ev'] at hK
  unfold w41_11
  refine lz2_inv (fun (x y : Int) => -1 ≤ y ∧ y ≤ 31 ∧ x = cod hp (hnr (gqA (pr_pos hp)) (gqP (pr_pos hp) (gt p) (gQ p)) (gqO (pr_pos hp)) v α 32 (31 - y).toNat)) (fun _ y => y + 1) ?_ ⟨by decide, by decide, by rw [ex4, h7]; exact (cod_0 hp).symm⟩
  intro X x y hX ⟨y0, y1, ex⟩
  refine ⟨⟨by omega, by omega⟩, ?_⟩
  by_cases hy : y < 0
  · rw [if_pos hy, ex, show (31 - y).toNat = 32 by omega]
    exact hK
  · rw [if_neg hy]
    have b1 := cod_b hp (hnr (gqA (pr_pos hp)) (gqP (pr_pos hp) (gt p) (gQ p)) (gqO (pr_pos hp)) v α 32 (31 - y).toNat)
    have b2 := cod_b hp α
    have b3 := cod_b hp (v y.toNat)
    have c0 := hv y (by omega) (by omega)
    have e1 := fofn_n hF c0.1 c0.2
    have e1' : (gqS (pr_pos hp) (σ 123 y) (gqE (pr_pos hp)) : gE p) = v y.toNat := by
      rw [ev']
      show _ = gqS (pr_pos hp) (σ 123 ((y.toNat : Nat) : Int)) (gqE (pr_pos hp))
      rw [show ((y.toNat : Nat) : Int) = y by omega]
    rw [e1'] at e1
    have e2 := cod_mul hp (hnr (gqA (pr_pos hp)) (gqP (pr_pos hp) (gt p) (gQ p)) (gqO (pr_pos hp)) v α 32 (31 - y).toNat) α
    have b4 := cod_b hp (gqP (pr_pos hp) (gt p) (gQ p) (hnr (gqA (pr_pos hp)) (gqP (pr_pos hp) (gt p) (gQ p)) (gqO (pr_pos hp)) v α 32 (31 - y).toNat) α)
    rw [← ex] at e2 b1
    rw [h7] at hr ⊢
    rw [e1, e2, hF.1]
    refine ⟨⟨b1.1, b1.2, b2.1, b2.2, by omega, by omega, by omega, ⟨by omega, by omega⟩, by omega, by omega, b4.1, b4.2, b3.1, b3.2, q9, hr⟩, ?_⟩
    intro x' ex'
    rw [cod_add hp h12] at ex'
    refine hX _ _ ⟨by omega, by omega, ?_⟩ (by omega)
    rw [ex', show (31 - (y + -1)).toNat = (31 - y).toNat + 1 by omega, hnr_s, show 32 - 1 - (31 - y).toNat = y.toNat by omega]
