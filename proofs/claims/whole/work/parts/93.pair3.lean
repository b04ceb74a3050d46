/-! ===== pairs: degrees, size, about ===== -/
def mxS (f v : Int → Int) (d : Int) : Prop := d = -2 ∨ ∃ k : Int, 0 ≤ k ∧ k < 4096 ∧ f k ≠ 0 ∧ v k = d
/-- the greatest v where f isn't 0, or -2 -/
def mxR (f v : Int → Int) (d : Int) : Prop := (∀ k : Int, 0 ≤ k → k < 4096 → f k ≠ 0 → v k ≤ d) ∧ mxS f v d
theorem mxR_eq {f v : Int → Int} {d e : Int} (hv : ∀ k, 0 ≤ v k) (h1 : mxR f v d) (h2 : mxR f v e) : d = e := by
  obtain ⟨a1, a2⟩ := h1
  obtain ⟨b1, b2⟩ := h2
  rcases a2 with a2 | ⟨k, k0, k1, k2, k3⟩
  · rcases b2 with b2 | ⟨l, l0, l1, l2, l3⟩
    · rw [a2, b2]
    · have := a1 l l0 l1 l2
      have := hv l
      omega
  · have q1 := b1 k k0 k1 k2
    rcases b2 with b2 | ⟨l, l0, l1, l2, l3⟩
    · have := hv k
      omega
    · have := a1 l l0 l1 l2
      omega
def dgv (k : Int) : Int := e4 k 0 + e4 k 1 + e4 k 2
theorem dgv_b (k : Int) : 0 ≤ dgv k ∧ dgv k ≤ 45 := by
  have := e4_b k 0
  have := e4_b k 1
  have := e4_b k 2
  unfold dgv; omega
section P3
variable {B : va_E} {σ : l2_m} {K : Int → l2_m → Prop}
theorem c114l {o : Nat} {W f : Int → Int} (hW : okW W) (hf : PR σ o W f) (h : ∀ d : Int, mxR f dgv d → ∀ τ, τ = trb σ 0 → K d τ) : w114_27 B σ o (-2) 0 K := by
  obtain ⟨p1, p2, p3, p4, p5⟩ := id hf
  unfold w114_27
  refine lz2_inv (fun d i => (0 ≤ i ∧ i ≤ σ o 2 ∧ -2 ≤ d ∧ d ≤ 45) ∧ (∀ j k : Int, 0 ≤ j → j < i → σ (o + 1) j = MW W k → dgv k ≤ d) ∧ mxS f dgv d) (fun _ i => σ o 2 - i) ?_ ⟨⟨by decide, p1, by decide, by decide⟩, fun j k j0 j1 => by omega, Or.inl rfl⟩
  intro X d i hX ⟨⟨i0, i1, d0, d1⟩, hm, hs⟩
  refine ⟨⟨⟨by omega, by omega⟩, ⟨by omega, by omega⟩⟩, ?_⟩
  by_cases hi : i < σ o 2
  · rw [if_pos hi]
    obtain ⟨k, k0, k1, k2, k3, k4⟩ := p3 i i0 hi
    obtain ⟨m0, m1, m2⟩ := MW_e W k
    have hb := dgv_b k
    rw [k2]
    refine ⟨⟨i0, by omega, MW_rg hW k, ⟨by omega, by omega⟩⟩, ?_⟩
    rw [m0, m1, m2]
    intro d' hd
    have hd' : d' = max d (dgv k) := hd
    refine hX d' (i + 1) ⟨⟨by omega, by omega, by omega, by omega⟩, fun j l j0 j1 jl => ?_, ?_⟩ (by omega)
    · by_cases hj : j = i
      · rw [hj, k2] at jl
        have : dgv l = dgv k := by
          obtain ⟨n0, n1, n2⟩ := MW_e W l
          unfold dgv
          rw [← m0, ← m1, ← m2, ← n0, ← n1, ← n2, jl]
        omega
      · have := hm j l j0 (by omega) jl
        omega
    · by_cases hl : d ≤ dgv k
      · exact Or.inr ⟨k, k0, k1, by rw [← k3]; rw [k3]; exact k4, by omega⟩
      · have : d' = d := by omega
        rw [this]; exact hs
  · rw [if_neg hi]
    refine h d ⟨fun k k0 k1 k2 => ?_, hs⟩
    obtain ⟨j, j0, j1, j2⟩ := p5 k k0 k1 k2
    exact hm j k j0 (by omega) j2
theorem c115l {o : Nat} {W f : Int → Int} {u : Int} (hW : okW W) (u0 : 0 ≤ u) (u1 : u < 3) (hf : PR σ o W f) (h : ∀ d : Int, mxR f (fun k => e4 k u) d → ∀ τ, τ = trb σ 0 → K d τ) : w115_35 B σ u o (-2) 0 K := by
  obtain ⟨p1, p2, p3, p4, p5⟩ := id hf
  unfold w115_35
  refine lz2_inv (fun d i => (0 ≤ i ∧ i ≤ σ o 2 ∧ -2 ≤ d ∧ d ≤ 45) ∧ (∀ j k : Int, 0 ≤ j → j < i → σ (o + 1) j = MW W k → e4 k u ≤ d) ∧ mxS f (fun k => e4 k u) d) (fun _ i => σ o 2 - i) ?_ ⟨⟨by decide, p1, by decide, by decide⟩, fun j k j0 j1 => by omega, Or.inl rfl⟩
  intro X d i hX ⟨⟨i0, i1, d0, d1⟩, hm, hs⟩
  refine ⟨⟨⟨by omega, by omega⟩, ⟨by omega, by omega⟩⟩, ?_⟩
  by_cases hi : i < σ o 2
  · rw [if_pos hi]
    obtain ⟨k, k0, k1, k2, k3, k4⟩ := p3 i i0 hi
    have m0 := MW_eu W k u0 u1
    have hb := e4_b k u
    rw [k2]
    refine ⟨⟨i0, by omega, MW_rg hW k, u0, u1, ⟨by omega, by omega⟩⟩, ?_⟩
    rw [m0]
    intro d' hd
    refine hX d' (i + 1) ⟨⟨by omega, by omega, by omega, by omega⟩, fun j l j0 j1 jl => ?_, ?_⟩ (by omega)
    · by_cases hj : j = i
      · rw [hj, k2] at jl
        have : e4 l u = e4 k u := by
          have n0 := MW_eu W l u0 u1
          rw [← m0, ← n0, jl]
        omega
      · have := hm j l j0 (by omega) jl
        omega
    · by_cases hl : d ≤ e4 k u
      · exact Or.inr ⟨k, k0, k1, k4, by show e4 k u = d'; omega⟩
      · have : d' = d := by omega
        rw [this]; exact hs
  · rw [if_neg hi]
    refine h d ⟨fun k k0 k1 k2 => ?_, hs⟩
    obtain ⟨j, j0, j1, j2⟩ := p5 k k0 k1 k2
    exact hm j k j0 (by omega) j2
theorem r209l {r : Int} {f : Int → Int} (r0 : 0 ≤ r) (r1 : r < 8) (hf : ∀ k : Int, 0 ≤ k → k < 4096 → σ 187 (4096 * r + k) = f k ∧ 0 ≤ f k ∧ f k < 97) (h : ∀ d : Int, mxR f dgv d → ∀ τ, τ = trr σ 0 → K d τ) : w209_24 B σ r (-2) 0 K := by
  unfold w209_24
  refine lz2_inv (fun d i => (0 ≤ i ∧ i ≤ 4096 ∧ -2 ≤ d ∧ d ≤ 45) ∧ (∀ k : Int, 0 ≤ k → k < i → f k ≠ 0 → dgv k ≤ d) ∧ mxS f dgv d) (fun _ i => 4096 - i) ?_ ⟨⟨by decide, by decide, by decide, by decide⟩, fun k j0 j1 => by omega, Or.inl rfl⟩
  intro X d i hX ⟨⟨i0, i1, d0, d1⟩, hm, hs⟩
  refine ⟨⟨by omega, by omega⟩, ?_⟩
  by_cases hi : i < 4096
  · rw [if_pos hi]
    obtain ⟨q1, q2, q3⟩ := hf i i0 hi
    have hb := dgv_b i
    rw [q1]
    refine ⟨⟨r0, r1, i0, hi, ⟨by omega, by omega⟩⟩, fun _ => ⟨by omega, by omega⟩, ?_⟩
    have ed : e4 i 0 + e4 i 1 + e4 i 2 = dgv i := rfl
    rw [ed]
    by_cases hc : f i = 0 ∨ ¬ d < dgv i
    · rw [if_pos hc]
      refine hX d (i + 1) ⟨⟨by omega, by omega, d0, d1⟩, fun k k0 k1 k2 => ?_, hs⟩ (by omega)
      by_cases hk : k = i
      · rw [hk] at k2 ⊢
        rcases hc with hc | hc
        · exact absurd hc k2
        · omega
      · exact hm k k0 (by omega) k2
    · rw [if_neg hc]
      have c1' : f i ≠ 0 := fun w => hc (Or.inl w)
      have c2' : d < dgv i := Classical.byContradiction (fun w => hc (Or.inr w))
      intro d' hd
      subst d'
      refine hX (dgv i) (i + 1) ⟨⟨by omega, by omega, by omega, by omega⟩, fun k k0 k1 k2 => ?_, Or.inr ⟨i, i0, hi, c1', rfl⟩⟩ (by omega)
      by_cases hk : k = i
      · rw [hk]
        exact Int.le_refl _
      · have := hm k k0 (by omega) k2
        omega
  · rw [if_neg hi]
    exact h d ⟨fun k k0 k1 k2 => hm k k0 (by omega) k2, hs⟩
end P3
theorem pair_degree {F : l2_m → Prop} {B : va_E} {r : Int} (hr : rg r) : PAIR F B 114 209 [vi r] := by
  intro σ hC hR
  obtain ⟨⟨B1, B2, B3, B4, B5, B6⟩, hD, -⟩ := id hC
  have h01 := hR.1
  refine o114 ?_
  unfold w114
  rw [B5]
  refine ⟨⟨hr, h01⟩, ?_⟩
  by_cases hc : σ 186 14 = 1 ∧ 0 ≤ r ∧ r < 8
  · rw [if_pos hc]
    refine ⟨hc.2, ?_⟩
    obtain ⟨b1, b2, b3, b4, b5, b6⟩ := hR.2.2.2.2.2.2.2.2.2 hc.1
    obtain ⟨-, -, -, -, -, -, D7, D8⟩ := hD hc.1
    obtain ⟨p2, p97, -⟩ := pr_rest _ b1
    refine c114l (wt_ok _ _ _) (D8 r hc.2.1 hc.2.2) ?_
    intro d hd τ et
    refine o209 ?_
    unfold w209
    intro υ eu
    rw [via et eu (b := 186) (j := 14) (by decide) (by decide)]
    refine ⟨⟨hr, h01⟩, ?_⟩
    rw [if_pos hc]
    refine r209l (f := regR σ r) hc.2.1 hc.2.2 (fun k k0 k1 => ?_) ?_
    · have := b3 r k hc.2.1 hc.2.2 k0 k1
      exact ⟨via et eu (by decide) (fun w => by omega), this.1, by unfold regR; omega⟩
    · intro e he ω ew
      exact ⟨mxR_eq (fun k => (dgv_b k).1) hd he, pair_e hC hR (by decide) et eu ew⟩
  · rw [if_neg hc]
    intro τ et
    refine o209 ?_
    unfold w209
    intro υ eu
    rw [via et eu (b := 186) (j := 14) (by decide) (by decide)]
    refine ⟨⟨hr, h01⟩, ?_⟩
    rw [if_neg hc]
    intro ω ew
    exact ⟨rfl, pair_e hC hR (by decide) et eu ew⟩
theorem pair_degreeIn {F : l2_m → Prop} {B : va_E} {r u : Int} (hr : rg r) (hu : rg u) : PAIR F B 115 211 [vi r, vi u] := by
  intro σ hC hR
  obtain ⟨⟨B1, B2, B3, B4, B5, B6⟩, hD, -⟩ := id hC
  have h01 := hR.1
  refine o115 ?_
  unfold w115
  rw [B5]
  refine ⟨⟨hr, h01⟩, ?_⟩
  by_cases hc : σ 186 14 = 1 ∧ 0 ≤ r ∧ r < 8
  · rw [if_pos hc]
    refine ⟨hu, ?_⟩
    by_cases h3 : 0 ≤ u ∧ u < 3
    · rw [if_pos h3]
      refine ⟨hc.2, ?_⟩
      obtain ⟨b1, b2, b3, b4, b5, b6⟩ := hR.2.2.2.2.2.2.2.2.2 hc.1
      obtain ⟨-, -, -, -, -, -, D7, D8⟩ := hD hc.1
      obtain ⟨p2, p97, -⟩ := pr_rest _ b1
      refine c115l (wt_ok _ _ _) h3.1 h3.2 (D8 r hc.2.1 hc.2.2) ?_
      intro d hd τ et
      refine o211 ?_
      unfold w211
      intro υ eu
      rw [via et eu (b := 186) (j := 14) (by decide) (by decide)]
      refine ⟨⟨hr, h01⟩, ?_⟩
      rw [if_pos hc]
      refine ⟨hu, ?_⟩
      rw [if_pos h3]
      have er : ∀ k : Int, υ 187 (4096 * r + k) = regR σ r k := fun k => via et eu (by decide) (fun w => by omega)
      refine s210 hc.2.1 hc.2.2 h3.1 h3.2 (fun k k0 k1 => ?_) ?_
      · rw [er]
        have := b3 r k hc.2.1 hc.2.2 k0 k1
        unfold regR
        exact ⟨by omega, by omega⟩
      · intro e e0 e1 e2 e3 ω ew
        refine ⟨mxR_eq (fun k => (e4_b k u).1) hd ⟨fun k k0 k1 k2 => e2 k k0 k1 (by rw [er]; exact k2), ?_⟩, pair_e hC hR (by decide) et eu ew⟩
        rcases e3 with e3 | ⟨k, k0, k1, k2, k3⟩
        · exact Or.inl e3
        · exact Or.inr ⟨k, k0, k1, by rw [er] at k2; exact k2, k3⟩
    · rw [if_neg h3]
      intro τ et
      refine o211 ?_
      unfold w211
      intro υ eu
      rw [via et eu (b := 186) (j := 14) (by decide) (by decide)]
      refine ⟨⟨hr, h01⟩, ?_⟩
      rw [if_pos hc]
      refine ⟨hu, ?_⟩
      rw [if_neg h3]
      intro ω ew
      exact ⟨rfl, pair_e hC hR (by decide) et eu ew⟩
  · rw [if_neg hc]
    intro τ et
    refine o211 ?_
    unfold w211
    intro υ eu
    rw [via et eu (b := 186) (j := 14) (by decide) (by decide)]
    refine ⟨⟨hr, h01⟩, ?_⟩
    rw [if_neg hc]
    intro ω ew
    exact ⟨rfl, pair_e hC hR (by decide) et eu ew⟩
