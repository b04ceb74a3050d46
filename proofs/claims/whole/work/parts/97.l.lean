/-! ===== term: the pair ===== -/
theorem pair_term {F : l2_m → Prop} {B : va_E} {r n t : Int} (hr : rg r) (hn : rg n) (ht : rg t) : PAIR F B 113 208 [vi r, vi n, vi t] := by
  intro σ hC hR
  have B5 := hC.1.2.2.2.2.1
  have h01 := hR.1
  refine o113 ?_
  unfold w113
  rw [B5]
  refine ⟨⟨hr, h01⟩, ?_⟩
  by_cases h1 : σ 186 14 = 1 ∧ 0 ≤ r ∧ r < 8
  · rw [if_pos h1]
    refine ⟨hn, ?_⟩
    obtain ⟨b1, b2, b3, b4, b5, b6⟩ := hR.2.2.2.2.2.2.2.2.2 h1.1
    obtain ⟨D1, D2, D3, D4, D5, D6, D7, D8⟩ := hC.2.1 h1.1
    obtain ⟨p2, p97, -⟩ := pr_rest _ b1
    have hf := D8 r h1.2.1 h1.2.2
    have hcn := PR_cnt hf
    have q0 := hf.1
    have q60 := hf.2.1
    have ref : ∀ (m a : Int) (τ : l2_m), τ = trb σ m → (¬ ((0 ≤ n ∧ n < σ (162 + 3 * Int.toNat r) 2) ∧ (0 ≤ t ∧ t ≤ 4)) → m = 1 ∧ a = -1) → ((0 ≤ n ∧ n < σ (162 + 3 * Int.toNat r) 2) ∧ (0 ≤ t ∧ t ≤ 4) → m = 0 ∧ ∀ k : Int, 0 ≤ k → k < 4096 → σ ((162 + 3 * Int.toNat r) + 1) n = MW (ordA σ) k → a = if t = 0 then regR σ r k else if t = 4 then e4 k 0 + e4 k 1 + e4 k 2 else e4 k (t - 1)) → wC B 208 [vr 186, vi r, vi n, vi t] τ (fun q υ => a = q ∧ CI F υ υ ∧ RWF υ) := by
      intro m a τ et g0 g1
      refine o208 ?_
      unfold w208
      intro υ eu
      have e187 : ∀ q k : Int, υ 187 (4096 * q + k) = σ 187 (4096 * q + k) := fun q k => via et eu (by decide) (fun w => by omega)
      have e190 : ∀ j : Int, υ 190 j = σ 190 j := fun j => via et eu (by decide) (fun w => by omega)
      have er : (fun k => υ 187 (4096 * r + k)) = regR σ r := funext (fun k => e187 r k)
      have hv : ∀ j : Int, 0 ≤ j → j < 4096 → υ 187 (4096 * r + j) = regR σ r j ∧ 0 ≤ regR σ r j ∧ regR σ r j < 97 := fun j j0 j1 => by
        have := b3 r j h1.2.1 h1.2.2 j0 j1
        exact ⟨e187 r j, this.1, by unfold regR; omega⟩
      rw [via et eu (b := 186) (j := 14) (by decide) (by decide), er, hcn]
      refine ⟨⟨hr, h01⟩, ?_⟩
      rw [if_pos h1]
      refine ⟨⟨h1.2.1, h1.2.2, fun j j0 j1 => by have := hv j j0 j1; exact ⟨by omega, by omega⟩, hn, ⟨by omega, by omega⟩⟩, ?_⟩
      by_cases c1' : 0 ≤ n ∧ n ≤ σ (162 + 3 * Int.toNat r) 2 - 1
      · rw [if_pos c1']
        refine ⟨ht, ?_⟩
        by_cases c2' : 0 ≤ t ∧ t ≤ 4
        · rw [if_pos c2']
          obtain ⟨m0, ha⟩ := g1 ⟨⟨c1'.1, by omega⟩, c2'⟩
          subst m0
          refine r208l (σ := σ) (o := 162 + 3 * Int.toNat r) (W := ordA σ) (f := regR σ r) h1.2.1 h1.2.2 c2'.1 c2'.2 hf ⟨fun i x0 x1 => by rw [e190]; exact b5.1 i x0 x1, fun i j x0 x1 x2 => by rw [e190, e190]; exact b5.2.1 i j x0 x1 x2, fun j x0 x1 => by obtain ⟨i, y0, y1, y2⟩ := b5.2.2 j x0 x1; exact ⟨i, y0, y1, by rw [e190]; exact y2⟩⟩ hv c1'.1 (by omega) ?_
          intro k k0 k1 k2 ω ew
          exact ⟨ha k k0 k1 k2, pair_e hC hR (by decide) et eu ew⟩
        · rw [if_neg c2']
          obtain ⟨m1, ha⟩ := g0 (fun w => c2' w.2)
          subst m1
          intro ω ew
          exact ⟨ha, pair_e hC hR (by decide) et eu ew⟩
      · rw [if_neg c1']
        obtain ⟨m1, ha⟩ := g0 (fun w => c1' ⟨w.1.1, by omega⟩)
        subst m1
        intro ω ew
        exact ⟨ha, pair_e hC hR (by decide) et eu ew⟩
    by_cases c1' : n < 0
    · rw [if_pos c1']
      intro τ et
      exact ref 1 _ τ et (fun _ => ⟨rfl, rfl⟩) (fun w => by omega)
    · rw [if_neg c1']
      refine ⟨⟨h1.2.1, h1.2.2, ⟨by omega, by omega⟩⟩, ?_⟩
      by_cases c2' : n < σ (162 + 3 * Int.toNat r) 2
      · rw [if_pos c2']
        refine ⟨ht, ?_⟩
        by_cases c3' : t < 0
        · rw [if_pos c3']
          intro τ et
          exact ref 1 _ τ et (fun _ => ⟨rfl, rfl⟩) (fun w => by omega)
        · rw [if_neg c3']
          by_cases c4' : 4 < t
          · rw [if_pos c4']
            intro τ et
            exact ref 1 _ τ et (fun _ => ⟨rfl, rfl⟩) (fun w => by omega)
          · rw [if_neg c4']
            refine ⟨⟨by omega, by omega⟩, ?_⟩
            intro m em
            obtain ⟨l, l0, l1, l2, l3, l4⟩ := hf.2.2.1 n (by omega) c2'
            have em' : m = MW (ordA σ) l := by rw [em]; exact l2
            have uq : ∀ k : Int, 0 ≤ k → k < 4096 → σ ((162 + 3 * Int.toNat r) + 1) n = MW (ordA σ) k → k = l := fun k k0 k1 k2 => MW_inj k0 k1 l0 l1 (by rw [← k2]; exact l2)
            have rgm : rg m := by rw [em']; exact MW_rg (wt_ok _ _ _) l
            obtain ⟨m0, m1, m2⟩ := MW_e (ordA σ) l
            by_cases d0 : t = 0
            · rw [if_pos d0]
              intro τ et
              refine ref 0 _ τ et (fun w => absurd ⟨⟨by omega, c2'⟩, by omega, by omega⟩ w) (fun _ => ⟨rfl, fun k k0 k1 k2 => ?_⟩)
              rw [if_pos d0, uq k k0 k1 k2]
              exact l3
            · rw [if_neg d0]
              by_cases d4 : t = 4
              · rw [if_pos d4]
                refine ⟨rgm, ?_⟩
                intro τ et
                refine ref 0 _ τ et (fun w => absurd ⟨⟨by omega, c2'⟩, by omega, by omega⟩ w) (fun _ => ⟨rfl, fun k k0 k1 k2 => ?_⟩)
                rw [if_neg d0, if_pos d4, uq k k0 k1 k2, em', m0, m1, m2]
              · rw [if_neg d4]
                refine ⟨⟨rgm, by omega, by omega⟩, ?_⟩
                intro τ et
                refine ref 0 _ τ et (fun w => absurd ⟨⟨by omega, c2'⟩, by omega, by omega⟩ w) (fun _ => ⟨rfl, fun k k0 k1 k2 => ?_⟩)
                rw [if_neg d0, if_neg d4, uq k k0 k1 k2, em', MW_eu (ordA σ) l (by omega) (by omega)]
      · rw [if_neg c2']
        intro τ et
        exact ref 1 _ τ et (fun _ => ⟨rfl, rfl⟩) (fun w => by omega)
  · rw [if_neg h1]
    intro τ et
    refine o208 ?_
    unfold w208
    intro υ eu
    rw [via et eu (b := 186) (j := 14) (by decide) (by decide)]
    refine ⟨⟨hr, h01⟩, ?_⟩
    rw [if_neg h1]
    intro ω ew
    exact ⟨rfl, pair_e hC hR (by decide) et eu ew⟩
