/-! ===== the reference: one division of rows ===== -/
theorem r264s {B : va_E} {σ : l2_m} {K : Int → l2_m → Prop} {X102 : l2_m → Prop} (hX : ∀ τ : l2_m, (∀ q j, q ≠ 204 → q ≠ 205 → τ q j = σ q j) → (∀ n : Int, 0 ≤ n → n < 36864 → τ 204 n = σ 205 n ∧ τ 205 n = σ 204 n) → X102 τ) : w264_147 B σ 0 X102 K := by
  unfold w264_147
  refine lz2_inv (fun (y : Int) z => 0 ≤ y ∧ y ≤ 36864 ∧ (∀ q j, q ≠ 204 → q ≠ 205 → z q j = σ q j) ∧ (∀ j : Int, 0 ≤ j → j < y → z 204 j = σ 205 j ∧ z 205 j = σ 204 j) ∧ (∀ j : Int, y ≤ j → z 204 j = σ 204 j ∧ z 205 j = σ 205 j)) (fun y _ => 36864 - y) ?_ ⟨by decide, by decide, fun _ _ _ _ => rfl, fun j _ _ => by omega, fun _ _ => ⟨rfl, rfl⟩⟩
  intro Z y z hZ ⟨y0, y1, z1, z2, z3⟩
  refine ⟨⟨by omega, by omega⟩, ?_⟩
  by_cases hy : y < 36864
  · rw [if_pos hy]
    refine ⟨⟨y0, hy⟩, ?_⟩
    intro x2 ex2 t1 et1 t2 et2
    refine hZ _ t2 ⟨by omega, by omega, fun q j w w' => by rw [et2, l2_u_ne w', et1, l2_u_ne w]; exact z1 q j w w', fun j j0 j1 => ?_, fun j j1 => ?_⟩ (by omega)
    · by_cases hj : j = y
      · rw [hj, et2]
        refine ⟨?_, ?_⟩
        · rw [l2_u_ne (by decide), et1, l2_u_self]; exact (z3 y (by omega)).2
        · rw [l2_u_self, ex2]; exact (z3 y (by omega)).1
      · rw [et2, l2_u_nj hj, l2_u_nj hj, et1, l2_u_nj hj, l2_u_nj hj]; exact z2 j j0 (by omega)
    · have hj : j ≠ y := by omega
      rw [et2, l2_u_nj hj, l2_u_nj hj, et1, l2_u_nj hj, l2_u_nj hj]; exact z3 j (by omega)
  · rw [if_neg hy]
    exact hX z z1 (fun n n0 n1 => z2 n n0 (by omega))
theorem r264i {K1 R A : Type} [Lean.Grind.Field K1] [Lean.Grind.CommRing R] [Lean.Grind.CommRing A] {c1 : R → Nat → K1} {k1 : K1 → R} {Y : R} (H1 : IsPol c1 k1 Y) {c2 : A → Nat → R} {k2 : R → A} {X : A} (H2 : IsPol c2 k2 X) {p : Int} {em : Int → K1} (E : isEm p em) {B : va_E} {σ : l2_m} {K : Int → l2_m → Prop} {X102 : l2_m → Prop} (hp : isPr p) (h5 : σ 186 5 = p) {A0 b f g UA VA UB VB : A} {ca cb δ : R} {a e HA HB u v : Nat} (hA : rgw c1 c2 em p (σ 204) A0) (hB : rgw c1 c2 em p (σ 205) b) (pA0 : prim c2 A0) (dA : isDg c2 A0 a) (dB : isDg c2 b e) (hae : e ≤ a) (ya : hlt c1 c2 A0 (HA + 1)) (yb : hlt c1 c2 b (HB + 1)) (hh : HA + (a - e + 1) * HB < 2304) (ca0 : ca ≠ 0) (cb0 : cb ≠ 0) (δ0 : δ ≠ 0) (ea : k2 ca * A0 = UA * f + VA * g) (eb : k2 cb * b = UB * f + VB * g) (ed : k2 δ = UA * VB - UB * VA) (dU : dlt c2 UA u) (dV : dlt c2 VA v) (dUB : ∀ k, k + e ≤ a → dlt c2 (X ^ k * UB) u) (dVB : ∀ k, k + e ≤ a → dlt c2 (X ^ k * VB) v) (hX : ∀ (τ : l2_m) (A' : A), (∀ q j, (q < 204 ∨ 209 < q) → τ q j = σ q j) → rgw c1 c2 em p (τ 204) b → rgw c1 c2 em p (τ 205) A' → (A' = 0 ∨ prim c2 A') → dlt c2 A' e → (∃ (U V : A) (c δ' : R), c ≠ 0 ∧ δ' ≠ 0 ∧ k2 c * A' = U * f + V * g ∧ k2 δ' = U * VB - UB * V ∧ dlt c2 U u ∧ dlt c2 V v) → (∀ D, prim c2 D → ((dv D A' ∧ dv D b) ↔ (dv D A0 ∧ dv D b))) → X102 τ) : w264_113 B σ X102 K := by
  unfold w264_113
  refine lz1_inv (fun s => (∀ q j, (q < 204 ∨ 209 < q) → s q j = σ q j) ∧ (∀ n : Int, s 205 n = σ 205 n) ∧ ∃ (A' : A) (D : Nat), rgw c1 c2 em p (s 204) A' ∧ (A' = 0 ∨ prim c2 A') ∧ D ≤ a + 1 ∧ dlt c2 A' D ∧ hlt c1 c2 A' (HA + (a + 1 - D) * HB + 1) ∧ (∃ (U V : A) (c δ' : R), c ≠ 0 ∧ δ' ≠ 0 ∧ k2 c * A' = U * f + V * g ∧ k2 δ' = U * VB - UB * V ∧ dlt c2 U u ∧ dlt c2 V v) ∧ ∀ D, prim c2 D → ((dv D A' ∧ dv D b) ↔ (dv D A0 ∧ dv D b))) (fun s => degX (s 204) + 1) ?_ ⟨fun _ _ _ => rfl, fun _ => rfl, A0, a + 1, hA, Or.inr pA0, Nat.le_refl _, dA.2, by rw [Nat.sub_self, Nat.zero_mul]; exact ya, ⟨UA, VA, ca, δ, ca0, δ0, ea, ed, dU, dV⟩, fun D _ => Iff.rfl⟩
  intro X113 s hL ⟨s1, s2, A', D, q1, q2, q3, q4, q5, ⟨U, V, c, δ', c0, d0, q6, q7, q8, q9⟩, q10⟩
  have hB' : rgw c1 c2 em p (s 205) b := rgw_cg hB (fun n _ _ => s2 n)
  have dXb : degX (s 205) = (e : Int) := by
    rcases rgw_dX H1 H2 E hB' with ⟨w, -⟩ | ⟨d', -, w, w'⟩
    · exact absurd w (isDg_nz H2 dB)
    · rw [w', isDg_u w dB]
  have e16 := isDg_lt dB hB.2
  have dXr : rg (degX (s 204)) := by
    rcases rgw_dX H1 H2 E q1 with ⟨-, w⟩ | ⟨d', w1, -, w⟩
    · rw [w]; exact ⟨by decide, by decide⟩
    · rw [w]; exact ⟨by omega, by omega⟩
  refine ⟨⟨fun j j0 j1 => (rgw_rg E q1 j j0 j1).2.2, fun j j0 j1 => (rgw_rg E hB' j j0 j1).2.2, dXr, by rw [dXb]; exact ⟨by omega, by omega⟩⟩, ?_⟩
  rw [dXb]
  by_cases hlq : degX (s 204) < (e : Int)
  · rw [if_pos hlq]
    have dA' : dlt c2 A' e := by
      rcases rgw_dX H1 H2 E q1 with ⟨w, -⟩ | ⟨d', w1, w2, w⟩
      · rw [w]; exact dlt_0 H2 e
      · rw [w] at hlq; exact dlt_mono w2.2 (by omega)
    refine r264s (fun τ t1 t2 => ?_)
    exact hX τ A' (fun q j w => by rw [t1 q j (by omega) (by omega)]; exact s1 q j w) (rgw_cg hB' (fun n n0 n1 => (t2 n n0 n1).1)) (rgw_cg q1 (fun n n0 n1 => (t2 n n0 n1).2)) q2 dA' ⟨U, V, c, δ', c0, d0, q6, q7, q8, q9⟩ q10
  · rw [if_neg hlq]
    rcases rgw_dX H1 H2 E q1 with ⟨-, w⟩ | ⟨d, d16, dA', wd⟩
    · rw [w] at hlq; omega
    · rw [wd] at hlq
      have dD := isDg_lt dA' q4
      have ya' : hlt c1 c2 A' (HA + (a - d) * HB + 1) := fun i => dlt_mono (q5 i) (by
        have := Nat.mul_le_mul_right HB (show a + 1 - D ≤ a - d by omega)
        omega)
      have e1 : (a - d + 1) * HB = (a - d) * HB + HB := Nat.succ_mul _ _
      have e2 := Nat.mul_le_mul_right HB (show a - d + 1 ≤ a - e + 1 by omega)
      refine r263 H1 H2 E hp rfl rfl (by decide) (by decide) (by decide) (by decide) (by decide) ((s1 186 5 (by omega)).trans h5) q1 hB' dA' dB (by omega) ya' yb (by omega) (fun τ b' t1 t2 t3 t4 => ?_)
      obtain ⟨v1, v2, v3, v4, v5⟩ := eu_st H1 H2 dA' dB (by omega) t3 t4 ya' yb c0 cb0 d0 q6 eb q7 q8 q9 (dUB (d - e) (by omega)) (dVB (d - e) (by omega))
      have dXt : degX (τ 204) < (d : Int) ∧ -1 ≤ degX (τ 204) := by
        rcases rgw_dX H1 H2 E t2 with ⟨-, w⟩ | ⟨d', w1, w2, w⟩
        · omega
        · have := isDg_lt w2 v2; omega
      refine hL τ ⟨fun q j w => by rw [t1 q j (by omega) (by omega)]; exact s1 q j w, fun n => by rw [t1 205 n (by decide) (by omega)]; exact s2 n, b', d, t2, v1, by omega, v2, fun i => dlt_mono (v3 i) (by rw [show a + 1 - d = a - d + 1 by omega, e1]; omega), v4, fun D pD => by rw [v5 D pD]; exact q10 D pD⟩ ?_
      rw [wd]
      omega
