/-! ===== pairs: size, about, ahead, leadBy ===== -/
section P4
variable {B : va_E} {σ : l2_m} {K : Int → l2_m → Prop}
theorem r276 (hr : ∀ q k : Int, 0 ≤ q → q < 8 → 0 ≤ k → k < 4096 → 0 ≤ σ 187 (4096 * q + k) ∧ σ 187 (4096 * q + k) < 97) (h : K (sumN (fun q => cnt (regR σ q) 4096) 8) σ) : wC B 276 [vr 186] σ K := by
  refine o276 ?_
  unfold w276 w276_4
  refine lz2_inv (fun x i => 0 ≤ i ∧ i ≤ 8 ∧ x = sumN (fun q => cnt (regR σ q) 4096) i.toNat) (fun _ i => 8 - i) ?_ ⟨by decide, by decide, rfl⟩
  intro X x i hX ⟨i0, i1, ex⟩
  refine ⟨⟨by omega, by omega⟩, ?_⟩
  by_cases hi : i < 8
  · rw [if_pos hi]
    refine ⟨⟨i0, hi, fun j j0 j1 => by have := hr i j i0 hi j0 j1; exact ⟨by omega, by omega⟩⟩, ?_⟩
    intro x' ex'
    refine hX x' (i + 1) ⟨by omega, by omega, ?_⟩ (by omega)
    rw [sumN_step i0, ex', ex]
    rfl
  · rw [if_neg hi]
    have h8 : i = 8 := by omega
    rw [h8] at ex
    rw [ex]
    exact h
theorem r205 (hr : ∀ q k : Int, 0 ≤ q → q < 8 → 0 ≤ k → k < 4096 → 0 ≤ σ 187 (4096 * q + k) ∧ σ 187 (4096 * q + k) < 97) (h : K (sumN (fun q => if cnt (regR σ q) 4096 = 0 then 0 else 1) 8) σ) : wC B 205 [vr 186] σ K := by
  refine o205 ?_
  unfold w205 w205_4
  refine lz2_inv (fun x i => 0 ≤ i ∧ i ≤ 8 ∧ x = sumN (fun q => if cnt (regR σ q) 4096 = 0 then 0 else 1) i.toNat) (fun _ i => 8 - i) ?_ ⟨by decide, by decide, rfl⟩
  intro X x i hX ⟨i0, i1, ex⟩
  refine ⟨⟨by omega, by omega⟩, ?_⟩
  by_cases hi : i < 8
  · rw [if_pos hi]
    refine ⟨⟨i0, hi, fun j j0 j1 => by have := hr i j i0 hi j0 j1; exact ⟨by omega, by omega⟩⟩, ?_⟩
    have er : (fun k => σ 187 (4096 * i + k)) = regR σ i := rfl
    rw [er]
    by_cases hz : cnt (regR σ i) 4096 = 0
    · rw [if_pos hz]
      intro x' ex'
      refine hX x' (i + 1) ⟨by omega, by omega, ?_⟩ (by omega)
      rw [sumN_step i0, ex', ex, if_pos hz]
    · rw [if_neg hz]
      intro x' ex'
      refine hX x' (i + 1) ⟨by omega, by omega, ?_⟩ (by omega)
      rw [sumN_step i0, ex', ex, if_neg hz]
  · rw [if_neg hi]
    have h8 : i = 8 := by omega
    rw [h8] at ex
    rw [ex]
    exact h
end P4
theorem pair_size {F : l2_m → Prop} {B : va_E} {r : Int} (hr : rg r) : PAIR F B 143 277 [vi r] := by
  intro σ hC hR
  obtain ⟨⟨B1, B2, B3, B4, B5, B6⟩, hD, hN, ⟨H1, H2, H3, H4⟩, -⟩ := id hC
  have h01 := hR.1
  have h45 : σ 186 14 = 0 → σ 186 45 = 0 := hR.2.2.2.2.2.2.2.2.1
  have hs : σ 186 14 = 0 → sumN (fun j => σ (162 + 3 * Int.toNat j) 2) 8 = 0 := fun z => sumN_zero (fun j j0 j1 => (hN z).2 j j0 (by omega))
  have hs1 : σ 186 14 = 1 → sumN (fun j => σ (162 + 3 * Int.toNat j) 2) 8 = sumN (fun q => cnt (regR σ q) 4096) 8 := fun z => sumN_congr (fun j j0 j1 => (PR_cnt ((hD z).2.2.2.2.2.2.2 j j0 (by omega))).symm)
  have hgo : ∀ w : Int, (r = 0 → w = σ 186 16) → (r = 1 → w = σ 128 6) → (r = 2 → w = sumN (fun j => σ (162 + 3 * Int.toNat j) 2) 8) → (r ≠ 0 → r ≠ 1 → r ≠ 2 → w = -1) → wC B 277 [vr 186, vi r] σ (fun q υ => w = q ∧ CI F υ υ ∧ RWF υ) := by
    intro w g0 g1 g2 g3
    refine o277 ?_
    unfold w277
    intro υ eu
    have a : ∀ b j, ¬ (b = 186 ∧ j = 0) → υ b j = σ b j := fun b j w => by rw [eu]; unfold l2_u; rw [if_neg w]
    have hp := pair_0 hC hR eu
    rw [a 186 14 (by omega), a 186 16 (by omega), a 186 45 (by omega)]
    refine ⟨hr, ?_⟩
    have rg14 : rg (σ 186 14) := by rcases h01 with z | z <;> rw [z] <;> decide
    by_cases c0 : r = 0
    · rw [if_pos c0]
      exact ⟨g0 c0, hp⟩
    · rw [if_neg c0]
      by_cases c1' : r = 1
      · rw [if_pos c1']
        refine ⟨rg14, ?_⟩
        by_cases z : σ 186 14 = 0
        · rw [if_pos z]
          exact ⟨by rw [g1 c1', H3, h45 z], hp⟩
        · rw [if_neg z]
          exact ⟨by rw [g1 c1', H3], hp⟩
      · rw [if_neg c1']
        by_cases c2' : r = 2
        · rw [if_pos c2']
          refine ⟨rg14, ?_⟩
          by_cases z : σ 186 14 = 0
          · rw [if_pos z]
            exact ⟨by rw [g2 c2', hs z], hp⟩
          · rw [if_neg z]
            have z1 := h01.resolve_left z
            obtain ⟨b1, b2, b3, b4, b5, b6⟩ := hR.2.2.2.2.2.2.2.2.2 z1
            obtain ⟨p2, p97, -⟩ := pr_rest _ b1
            refine r276 (fun q k q0 q1 k0 k1 => ?_) ?_
            · rw [a 187 _ (by omega)]
              have := b3 q k q0 q1 k0 k1
              omega
            · refine ⟨?_, hp⟩
              rw [g2 c2', hs1 z1]
              have : regR υ = regR σ := funext (fun q => funext (fun k => a 187 _ (by omega)))
              rw [this]
        · rw [if_neg c2']
          exact ⟨g3 c0 c1' c2', hp⟩
  refine o143 ?_
  unfold w143
  refine ⟨hr, ?_⟩
  by_cases c0 : r = 0
  · rw [if_pos c0, B1]
    exact hgo _ (fun _ => rfl) (fun _ => by omega) (fun _ => by omega) (fun z => absurd c0 z)
  · rw [if_neg c0]
    by_cases c1' : r = 1
    · rw [if_pos c1']
      exact hgo _ (fun z => absurd z c0) (fun _ => rfl) (fun _ => by omega) (fun _ z => absurd c1' z)
    · rw [if_neg c1']
      by_cases c2' : r = 2
      · rw [if_pos c2']
        exact hgo _ (fun z => absurd z c0) (fun z => absurd z c1') (fun _ => rfl) (fun _ _ z => absurd c2' z)
      · rw [if_neg c2']
        exact hgo _ (fun z => absurd z c0) (fun z => absurd z c1') (fun z => absurd z c2') (fun _ _ _ => rfl)
theorem pair_about {F : l2_m → Prop} {B : va_E} {r : Int} (hr : rg r) : PAIR F B 111 206 [vi r] := by
  intro σ hC hR
  obtain ⟨⟨B1, B2, B3, B4, B5, B6⟩, hD, hN, -⟩ := id hC
  have h01 := hR.1
  have rg14 : rg (σ 186 14) := by rcases h01 with z | z <;> rw [z] <;> decide
  refine o111 ?_
  unfold w111
  rw [B5]
  refine ⟨rg14, ?_⟩
  by_cases z : σ 186 14 = 0
  · rw [if_pos z]
    intro τ et
    refine o206 ?_
    unfold w206
    intro υ eu
    rw [via et eu (b := 186) (j := 14) (by decide) (by decide)]
    refine ⟨rg14, ?_⟩
    rw [if_pos z]
    intro ω ew
    exact ⟨rfl, pair_e hC hR (by decide) et eu ew⟩
  · rw [if_neg z]
    refine ⟨hr, ?_⟩
    have z1 := h01.resolve_left z
    obtain ⟨b1, b2, b3, b4, b5, b6⟩ := hR.2.2.2.2.2.2.2.2.2 z1
    obtain ⟨D1, -, D3, D4, D5, D6, D7, D8⟩ := hD z1
    obtain ⟨p2, p97, -⟩ := pr_rest _ b1
    have hgo : ∀ (w n : Int) (τ : l2_m), τ = trb σ n → (n = 0 ∧ ((r = 0 ∧ w = σ 34 0) ∨ (r = 1 ∧ w = σ 36 0) ∨ (r = 2 ∧ w = σ 36 1) ∨ (r = 3 ∧ w = σ 36 2) ∨ (r = 4 ∧ w = σ 36 3) ∨ (r = 5 ∧ w = sumN (fun j => if 0 < σ (162 + 3 * Int.toNat j) 2 then 1 else 0) 8)) ∨ (n = 1 ∧ w = -1 ∧ r ≠ 0 ∧ r ≠ 1 ∧ r ≠ 2 ∧ r ≠ 3 ∧ r ≠ 4 ∧ r ≠ 5)) → wC B 206 [vr 186, vi r] τ (fun q υ => w = q ∧ CI F υ υ ∧ RWF υ) := by
      intro w n τ et g
      refine o206 ?_
      unfold w206
      intro υ eu
      have a : ∀ j : Int, j ≠ 0 → υ 186 j = σ 186 j := fun j hj => via et eu (by decide) (fun _ => hj)
      have fin : ∀ ω, ω = trr υ n → CI F ω ω ∧ RWF ω := fun ω ew => by
        rcases g with ⟨q, -⟩ | ⟨q, -⟩
        · exact pair_e hC hR (by rw [q]; decide) et eu ew
        · exact pair_e hC hR (by rw [q]; decide) et eu ew
      rw [a 14 (by decide), a 5 (by decide), a 6 (by decide), a 7 (by decide), a 8 (by decide)]
      refine ⟨rg14, ?_⟩
      rw [if_neg z]
      refine ⟨hr, ?_⟩
      by_cases c0 : r = 0
      · rw [if_pos c0]
        intro ω ew
        have : n = 0 ∧ w = σ 34 0 := by omega
        rw [← this.1] at ew
        exact ⟨by rw [this.2, D1], fin ω ew⟩
      · rw [if_neg c0]
        by_cases c1' : r = 1
        · rw [if_pos c1']
          intro ω ew
          have : n = 0 ∧ w = σ 36 0 := by omega
          rw [← this.1] at ew
          exact ⟨by rw [this.2, D3], fin ω ew⟩
        · rw [if_neg c1']
          by_cases c2' : r = 2
          · rw [if_pos c2']
            intro ω ew
            have : n = 0 ∧ w = σ 36 1 := by omega
            rw [← this.1] at ew
            exact ⟨by rw [this.2, D4], fin ω ew⟩
          · rw [if_neg c2']
            by_cases c3' : r = 3
            · rw [if_pos c3']
              intro ω ew
              have : n = 0 ∧ w = σ 36 2 := by omega
              rw [← this.1] at ew
              exact ⟨by rw [this.2, D5], fin ω ew⟩
            · rw [if_neg c3']
              by_cases c4' : r = 4
              · rw [if_pos c4']
                intro ω ew
                have : n = 0 ∧ w = σ 36 3 := by omega
                rw [← this.1] at ew
                exact ⟨by rw [this.2, D6], fin ω ew⟩
              · rw [if_neg c4']
                by_cases c5' : r = 5
                · rw [if_pos c5']
                  have : n = 0 ∧ w = sumN (fun j => if 0 < σ (162 + 3 * Int.toNat j) 2 then 1 else 0) 8 := by omega
                  have er : ∀ q k : Int, υ 187 (4096 * q + k) = σ 187 (4096 * q + k) := fun q k => via et eu (by decide) (fun w => by omega)
                  refine r205 (fun q k q0 q1 k0 k1 => ?_) ?_
                  · rw [er]
                    have := b3 q k q0 q1 k0 k1
                    omega
                  · intro ω ew
                    rw [← this.1] at ew
                    refine ⟨?_, fin ω ew⟩
                    rw [this.2]
                    refine sumN_congr (fun j j0 j1 => ?_)
                    have hp := D8 j j0 (by omega)
                    have e1 := PR_cnt hp
                    have e2 : regR υ j = regR σ j := funext (fun k => er j k)
                    have e3 := hp.1
                    show (if 0 < σ (162 + 3 * Int.toNat j) 2 then (1 : Int) else 0) = if cnt (regR υ j) 4096 = 0 then 0 else 1
                    rw [e2, e1]
                    by_cases q : σ (162 + 3 * Int.toNat j) 2 = 0
                    · rw [if_pos q, if_neg (by omega)]
                    · rw [if_neg q, if_pos (by omega)]
                · rw [if_neg c5']
                  intro ω ew
                  have : n = 1 ∧ w = -1 := by omega
                  rw [← this.1] at ew
                  exact ⟨this.2, fin ω ew⟩
    by_cases c0 : r = 0
    · rw [if_pos c0]
      intro τ et
      exact hgo _ 0 τ et (Or.inl ⟨rfl, Or.inl ⟨c0, rfl⟩⟩)
    · rw [if_neg c0]
      by_cases c1' : r = 1
      · rw [if_pos c1']
        intro τ et
        exact hgo _ 0 τ et (Or.inl ⟨rfl, Or.inr (Or.inl ⟨c1', rfl⟩)⟩)
      · rw [if_neg c1']
        by_cases c2' : r = 2
        · rw [if_pos c2']
          intro τ et
          exact hgo _ 0 τ et (Or.inl ⟨rfl, Or.inr (Or.inr (Or.inl ⟨c2', rfl⟩))⟩)
        · rw [if_neg c2']
          by_cases c3' : r = 3
          · rw [if_pos c3']
            intro τ et
            exact hgo _ 0 τ et (Or.inl ⟨rfl, Or.inr (Or.inr (Or.inr (Or.inl ⟨c3', rfl⟩)))⟩)
          · rw [if_neg c3']
            by_cases c4' : r = 4
            · rw [if_pos c4']
              intro τ et
              exact hgo _ 0 τ et (Or.inl ⟨rfl, Or.inr (Or.inr (Or.inr (Or.inr (Or.inl ⟨c4', rfl⟩))))⟩)
            · rw [if_neg c4']
              by_cases c5' : r = 5
              · rw [if_pos c5']
                refine ⟨fun j j0 j1 => ?_, ?_⟩
                · have hp := D8 j j0 j1
                  have e0 := hp.1
                  have e1 := hp.2.1
                  exact ⟨by omega, by omega⟩
                · intro τ et
                  exact hgo _ 0 τ et (Or.inl ⟨rfl, Or.inr (Or.inr (Or.inr (Or.inr (Or.inr ⟨c5', rfl⟩))))⟩)
              · rw [if_neg c5']
                intro τ et
                exact hgo _ 1 τ et (Or.inr ⟨rfl, rfl, c0, c1', c2', c3', c4', c5'⟩)
