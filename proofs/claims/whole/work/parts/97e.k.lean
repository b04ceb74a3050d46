/-! ===== Commons: values at an element ===== -/
/-- Horner: k steps from the top of N -/
def hnr {T : Type} (ad mu : T → T → T) (z : T) (v : Nat → T) (α : T) (N : Nat) : Nat → T
  | 0 => z
  | k + 1 => ad (mu (hnr ad mu z v α N k) α) (v (N - 1 - k))
theorem hnr_s {T : Type} (ad mu : T → T → T) (z : T) (v : Nat → T) (α : T) (N k : Nat) : hnr ad mu z v α N (k + 1) = ad (mu (hnr ad mu z v α N k) α) (v (N - 1 - k)) := rfl
theorem FOK_r {p : Int} {hp : isPr p} {σ : l2_m} (h : FOK hp σ) : σ 110 7 = (gQ p : Int) ∧ (gQ p : Int) ≤ 9408 ∧ (∀ e : Int, 0 ≤ e → e < σ 110 7 → 0 ≤ σ 112 e ∧ σ 112 e ≤ σ 110 7) := by
  obtain ⟨-, -, -, -, h7, -, h12, -⟩ := h
  obtain ⟨-, ⟨-, q2⟩, -⟩ := gFacts hp
  have eQ := (g_cyc hp).2
  refine ⟨h7, by omega, fun e e0 e1 => ?_⟩
  rw [h7] at e1 ⊢
  obtain ⟨a, ea⟩ := cod_s hp e0 (Int.le_of_lt e1)
  have an : a ≠ gqO (pr_pos hp) := fun w => by
    rw [(cod_z hp).mpr w] at ea
    omega
  rw [← ea, h12 a an]
  exact cod_b hp _
theorem c42 {B : va_E} {σ : l2_m} {K : Int → l2_m → Prop} {p : Int} (hp : isPr p) (hF : FOK hp σ) {o1 n1 : Nat} {x2 : Int} (ho1 : l2_al o1 = some n1) (x0 : 0 ≤ x2) (x1 : x2 + 32 ≤ (n1 : Int)) {v : Nat → gE p} (hv : ∀ i : Nat, i < 32 → σ o1 (x2 + i) = cod hp (v i)) (α : gE p) (hK : K (cod hp (hnr (gqA (pr_pos hp)) (gqP (pr_pos hp) (gt p) (gQ p)) (gqO (pr_pos hp)) v α 32 32)) σ) : wC B 42 [vr 109, vr o1, vi x2, vi (cod hp α)] σ K := by
  obtain ⟨h7, q9, hr⟩ := FOK_r hF
  have h12 := hF.2.2.2.2.2.2.1
  refine o42 ho1 ?_
  unfold w42
  intro x4 ex4
  unfold w42_13
  refine lz2_inv (fun (x y : Int) => -1 ≤ y ∧ y ≤ 31 ∧ x = cod hp (hnr (gqA (pr_pos hp)) (gqP (pr_pos hp) (gt p) (gQ p)) (gqO (pr_pos hp)) v α 32 (31 - y).toNat)) (fun _ y => y + 1) ?_ ⟨by decide, by decide, by rw [ex4, h7]; exact (cod_0 hp).symm⟩
  intro X x y hX ⟨y0, y1, ex⟩
  refine ⟨⟨by omega, by omega⟩, ?_⟩
  by_cases hy : y < 0
  · rw [if_pos hy, ex, show (31 - y).toNat = 32 by omega]
    exact hK
  · rw [if_neg hy]
    have b1 := cod_b hp (hnr (gqA (pr_pos hp)) (gqP (pr_pos hp) (gt p) (gQ p)) (gqO (pr_pos hp)) v α 32 (31 - y).toNat)
    have b2 := cod_b hp α
    have b3 := cod_b hp (v y.toNat)
    have e1 := hv y.toNat (by omega)
    rw [show ((y.toNat : Nat) : Int) = y by omega] at e1
    have e2 := cod_mul hp (hnr (gqA (pr_pos hp)) (gqP (pr_pos hp) (gt p) (gQ p)) (gqO (pr_pos hp)) v α 32 (31 - y).toNat) α
    have b4 := cod_b hp (gqP (pr_pos hp) (gt p) (gQ p) (hnr (gqA (pr_pos hp)) (gqP (pr_pos hp) (gt p) (gQ p)) (gqO (pr_pos hp)) v α 32 (31 - y).toNat) α)
    rw [← ex] at e2 b1
    rw [h7] at hr ⊢
    rw [e1, e2]
    refine ⟨⟨b1.1, b1.2, b2.1, b2.2, by omega, by omega, by omega, b4.1, b4.2, b3.1, b3.2, q9, hr⟩, ?_⟩
    intro x' ex'
    rw [cod_add hp h12] at ex'
    refine hX _ _ ⟨by omega, by omega, ?_⟩ (by omega)
    rw [ex', show (31 - (y + -1)).toNat = (31 - y).toNat + 1 by omega, hnr_s, show 32 - 1 - (31 - y).toNat = y.toNat by omega]
