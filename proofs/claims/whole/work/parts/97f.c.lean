/-! ===== the reference: products of rows ===== -/
theorem prd {K1 R : Type} [Lean.Grind.Field K1] [Lean.Grind.CommRing R] {c1 : R → Nat → K1} {k1 : K1 → R} {Y : R} (H1 : IsPol c1 k1 Y) {p : Int} {em : Int → K1} (E : isEm p em) {σ : l2_m} {oB : Nat} {off tA tB : Int} {M : Int → l2_m → Int} {mm : Nat → Int} {X : l2_m → Prop} {r0 A v : R} (nB : oB ≠ 209) (h5 : σ 186 5 = p) (hM : ∀ s : l2_m, (∀ b j, b ≠ 209 → s b j = σ b j) → ∀ i : Nat, (i : Int) ≤ tA → M i s = mm i) (hmm : ∀ i : Nat, (i : Int) ≤ tA → 0 ≤ mm i ∧ mm i ≤ 97 ∧ c1 A i = em (mm i)) (tA0 : -1 ≤ tA) (tA1 : tA < 2304) (dA : dlt c1 A (tA + 1).toNat) (tB0 : -1 ≤ tB) (tB1 : tB < 2304) (dV : dlt c1 v (tB + 1).toNat) (hv : 0 ≤ tB → rpw c1 em p (fun j => σ oB (off + j)) 2304 v ∧ 0 ≤ off ∧ off + 2304 ≤ 36864) (tAB : tA + tB < 2304) (hr : rpw c1 em p (σ 209) 2304 r0) (hK : ∀ τ : l2_m, (∀ b j, b ≠ 209 → τ b j = σ b j) → rpw c1 em p (τ 209) 2304 (r0 + A * v) → X τ) : lz2 (fun Xo i σ => ((rg i ∧ rg tA) ∧ (if tA < i then X σ else lz2 (fun Xi k σ => ((rg k ∧ rg tB) ∧ (if tB < k then Xo (i + 1) σ else ((0 ≤ (i + k) ∧ (i + k) < 2304 ∧ 0 ≤ i ∧ i < 2304 ∧ 0 ≤ (off + k) ∧ (off + k) < 36864 ∧ rg ((σ 209 (i + k)) + ((M i σ) * (σ oB (off + k)))) ∧ rg (σ 186 5) ∧ 0 < (σ 186 5) ∧ 0 ≤ ((σ 209 (i + k)) + ((M i σ) * (σ oB (off + k))))) ∧ ∀ σ' : l2_m, σ' = l2_u σ 209 (i + k) (((σ 209 (i + k)) + ((M i σ) * (σ oB (off + k)))) % (σ 186 5)) → Xi (k + 1) σ')))) 0 σ))) 0 σ := by
  have p2 := E.1
  have p97 := E.2.1
  refine lz2_inv (fun (i : Int) s => 0 ≤ i ∧ i ≤ tA + 1 ∧ (∀ b j, b ≠ 209 → s b j = σ b j) ∧ ∃ u : R, rpw c1 em p (s 209) 2304 (r0 + u * v) ∧ (∀ j : Nat, (j : Int) < i → c1 u j = c1 A j) ∧ dlt c1 u i.toNat) (fun i _ => tA + 1 - i) ?_ ⟨by decide, by omega, fun _ _ _ => rfl, 0, by rw [show r0 + 0 * v = r0 by grind]; exact hr, fun j hj => by omega, dlt_0 H1 _⟩
  intro Xo i s hX ⟨i0, i1, s1, u, s2, s3, s4⟩
  refine ⟨⟨⟨by omega, by omega⟩, ⟨by omega, by omega⟩⟩, ?_⟩
  by_cases hi : tA < i
  · rw [if_pos hi]
    have eu : u = A := po_ext H1 (fun j => by
      by_cases hj : (j : Int) < i
      · exact s3 j hj
      · rw [s4 j (by omega), dA j (by omega)])
    rw [eu] at s2
    exact hK s s1 s2
  · rw [if_neg hi]
    obtain ⟨e, rfl⟩ : ∃ e : Nat, i = (e : Int) := ⟨i.toNat, by omega⟩
    obtain ⟨m0, m1, m2⟩ := hmm e (by omega)
    have nxt : ∀ z : l2_m, (∀ b j, b ≠ 209 → z b j = σ b j) → rpw c1 em p (z 209) 2304 (r0 + u * v + k1 (em (mm e)) * (Y ^ e * v)) → Xo ((e : Int) + 1) z := fun z z1 z2 => by
      have eq : r0 + u * v + k1 (em (mm e)) * (Y ^ e * v) = r0 + (u + k1 (em (mm e)) * Y ^ e) * v := by grind
      rw [eq] at z2
      refine hX _ z ⟨by omega, by omega, z1, u + k1 (em (mm e)) * Y ^ e, z2, fun j hj => ?_, ?_⟩ (by omega)
      · rw [po_a H1, po_mo H1]
        by_cases hje : j = e
        · rw [hje, if_pos rfl, s4 e (by omega), m2]; grind
        · rw [if_neg hje, s3 j (by omega)]; grind
      · rw [show ((e : Int) + 1).toNat = e + 1 by omega]
        exact dlt_add H1 (dlt_mono s4 (by omega)) (dlt_mo H1 _ e)
    refine lz2_inv (fun (k : Int) z => 0 ≤ k ∧ k ≤ tB + 1 ∧ (∀ b j, b ≠ 209 → z b j = σ b j) ∧ (∀ j : Nat, (j : Int) < k → z 209 ((e : Int) + j) = (s 209 ((e : Int) + j) + mm e * σ oB (off + j)) % p) ∧ (∀ j : Int, (j < e ∨ (e : Int) + k ≤ j) → z 209 j = s 209 j)) (fun k _ => tB + 1 - k) ?_ ⟨by decide, by omega, s1, fun j hj => by omega, fun _ _ => rfl⟩
    intro Xi k z hZ ⟨k0, k1', z1, z2, z3⟩
    refine ⟨⟨⟨by omega, by omega⟩, ⟨by omega, by omega⟩⟩, ?_⟩
    by_cases hk : tB < k
    · rw [if_pos hk]
      refine nxt z z1 ?_
      by_cases hB : 0 ≤ tB
      · obtain ⟨v1, v2, v3⟩ := hv hB
        exact rpw_st H1 E (s := e) (t := tB.toNat) (m := mm e) (v := fun j => σ oB (off + j)) s2 v1 (dlt_mono dV (by omega)) (by omega) (fun j hj => by
          rw [show ((e + j : Nat) : Int) = (e : Int) + j by omega]; exact z2 j (by omega)) (fun j hj hjs => z3 j (by omega))
      · have v0 : v = 0 := dlt_z H1 (dlt_mono dV (by omega))
        rw [v0, show r0 + u * 0 + k1 (em (mm e)) * (Y ^ e * 0) = r0 + u * 0 by grind]
        rw [v0] at s2
        exact rpw_cg s2 (fun j _ => z3 j (by omega))
    · rw [if_neg hk]
      obtain ⟨f, rfl⟩ : ∃ f : Nat, k = (f : Int) := ⟨k.toNat, by omega⟩
      obtain ⟨v1, v2, v3⟩ := hv (by omega)
      have a0 := s2.1 (e + f) (by omega)
      rw [show ((e + f : Nat) : Int) = (e : Int) + f by omega] at a0
      have b0 := v1.1 f (by omega)
      have b0' : 0 ≤ σ oB (off + f) ∧ σ oB (off + f) < p := ⟨b0.1, b0.2.1⟩
      rw [z3 _ (by omega), hM z z1 e (by omega), z1 oB _ nB, z1 186 5 (by decide), h5]
      have g4 : 0 ≤ mm e * σ oB (off + f) := Int.mul_nonneg m0 b0'.1
      have g5 : mm e * σ oB (off + f) ≤ 97 * 97 := Int.mul_le_mul m1 (by omega) b0'.1 (by omega)
      refine ⟨⟨by omega, by omega, by omega, by omega, by omega, by omega, ⟨by omega, by omega⟩, ⟨by omega, by omega⟩, by omega, by omega⟩, ?_⟩
      intro z' ez'
      refine hZ _ z' ⟨by omega, by omega, fun b j w => by rw [ez', l2_u_ne w]; exact z1 b j w, fun j hj => ?_, fun j hj => ?_⟩ (by omega)
      · by_cases hjf : j = f
        · rw [ez', hjf, l2_u_self]
        · rw [ez', l2_u_nj (by omega)]; exact z2 j (by omega)
      · rw [ez', l2_u_nj (by omega)]; exact z3 j (by omega)
theorem rgw_dX {K1 R A : Type} [Lean.Grind.Field K1] [Lean.Grind.CommRing R] [Lean.Grind.CommRing A] {c1 : R → Nat → K1} {k1 : K1 → R} {Y : R} (H1 : IsPol c1 k1 Y) {c2 : A → Nat → R} {k2 : R → A} {X : A} (H2 : IsPol c2 k2 X) {p : Int} {em : Int → K1} (E : isEm p em) {u : Int → Int} {a : A} (h : rgw c1 c2 em p u a) : (a = 0 ∧ degX u = -1) ∨ ∃ d : Nat, d < 16 ∧ isDg c2 a d ∧ degX u = (d : Int) := by
  have tz : ∀ i : Nat, i < 16 → (top (fun j => u (2304 * (i : Int) + j)) 2304 = -1 ↔ c2 a i = 0) := fun i hi => by
    obtain ⟨t1, t2, t3, t4⟩ := rpw_t23 H1 E (h.1 i hi)
    refine ⟨fun w => t3 (by omega), fun w => ?_⟩
    rcases Int.lt_or_le (top (fun j => u (2304 * (i : Int) + j)) 2304) 0 with v | v
    · omega
    · exact absurd w (isDg_nz H1 (t4 v))
  by_cases a0 : a = 0
  · refine Or.inl ⟨a0, ?_⟩
    unfold degX
    refine top_uniq (by decide) (by decide) (by decide) (fun i i0 i1 => ?_) (fun w => absurd w (by decide))
    obtain ⟨n, rfl⟩ : ∃ n : Nat, i = (n : Int) := ⟨i.toNat, by omega⟩
    rw [if_pos ((tz n (by omega)).mpr (by rw [a0, po_0 H2]))]
  · obtain ⟨d, hd⟩ := po_dg H2 a0
    have d16 := isDg_lt hd h.2
    refine Or.inr ⟨d, d16, hd, ?_⟩
    unfold degX
    refine top_uniq (by decide) (by omega) (by omega) (fun i i0 i1 => ?_) (fun _ => ?_)
    · obtain ⟨n, rfl⟩ : ∃ n : Nat, i = (n : Int) := ⟨i.toNat, by omega⟩
      rw [if_pos ((tz n (by omega)).mpr (hd.2 n (by omega)))]
    · rw [if_neg (fun w => hd.1 ((tz d d16).mp w))]; decide
