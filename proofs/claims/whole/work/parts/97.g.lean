/-! ===== ahead, leadBy ===== -/
theorem pair_ahead {F : l2_m → Prop} {B : va_E} {x y z u v w : Int} (hx : rg x) (hy : rg y) (hz : rg z) (hu : rg u) (hv : rg v) (hw : rg w) : PAIR F B 120 219 [vi x, vi y, vi z, vi u, vi v, vi w] := by
  intro σ hC hR
  have B5 := hC.1.2.2.2.2.1
  have h01 := hR.1
  have rg14 : rg (σ 186 14) := by rcases h01 with z | z <;> rw [z] <;> decide
  have hgo : ∀ (n a : Int) (τ : l2_m), τ = trb σ n → (σ 186 14 = 0 → n = 1 ∧ a = -2) → (σ 186 14 ≠ 0 → ¬ (isE3 x y z ∧ isE3 u v w) → n = 2 ∧ a = -2) → (σ 186 14 ≠ 0 → isE3 x y z ∧ isE3 u v w → n = 0 ∧ a = if MW (ordA σ) (x + 16 * y + 256 * z) < MW (ordA σ) (u + 16 * v + 256 * w) then -1 else if MW (ordA σ) (x + 16 * y + 256 * z) = MW (ordA σ) (u + 16 * v + 256 * w) then 0 else 1) → wC B 219 [vr 186, vi x, vi y, vi z, vi u, vi v, vi w] τ (fun q υ => a = q ∧ CI F υ υ ∧ RWF υ) := by
    intro n a τ et g1 g2 g3
    refine o219 ?_
    unfold w219
    intro υ eu
    have a6 : υ 186 6 = σ 186 6 := via et eu (by decide) (by decide)
    have a7 : υ 186 7 = σ 186 7 := via et eu (by decide) (by decide)
    have a8 : υ 186 8 = σ 186 8 := via et eu (by decide) (by decide)
    rw [via et eu (b := 186) (j := 14) (by decide) (by decide)]
    refine ⟨rg14, ?_⟩
    by_cases z0 : σ 186 14 = 0
    · rw [if_pos z0]
      obtain ⟨q1, q2⟩ := g1 z0
      subst q1
      unfold w219_66
      refine ⟨by decide, ?_⟩
      rw [if_pos (by decide)]
      intro ω ew
      exact ⟨q2, pair_e hC hR (by decide) et eu ew⟩
    · rw [if_neg z0]
      have two : ¬ (isE3 x y z ∧ isE3 u v w) → w219_65 B υ x y z u v w (fun q υ => a = q ∧ CI F υ υ ∧ RWF υ) := by
        intro hb
        obtain ⟨q1, q2⟩ := g2 z0 hb
        subst q1
        unfold w219_65 w219_66
        refine ⟨by decide, ?_⟩
        rw [if_pos (by decide)]
        intro ω ew
        exact ⟨q2, pair_e hC hR (by decide) et eu ew⟩
      refine ⟨hx, fun _ => hy, ?_⟩
      by_cases c1' : (0 ≤ x ∧ x < 16) ∧ (0 ≤ y ∧ y < 16)
      · rw [if_pos c1']
        refine ⟨hz, fun _ => hu, ?_⟩
        by_cases c2' : (0 ≤ z ∧ z < 16) ∧ (0 ≤ u ∧ u < 16)
        · rw [if_pos c2']
          refine ⟨hv, fun _ => hw, ?_⟩
          by_cases c3' : (0 ≤ v ∧ v < 16) ∧ (0 ≤ w ∧ w < 16)
          · rw [if_pos c3']
            obtain ⟨q1, q2⟩ := g3 z0 ⟨⟨c1'.1, c1'.2, c2'.1⟩, ⟨c2'.2, c3'.1, c3'.2⟩⟩
            subst q1
            obtain ⟨b1, b2, -⟩ := hR.2.2.2.2.2.2.2.2.2 (h01.resolve_left z0)
            unfold w219_66
            refine ⟨by decide, ?_⟩
            rw [if_neg (by decide)]
            refine ⟨⟨c1'.1.1, c1'.1.2, c1'.2.1, c1'.2.2, c2'.1.1, c2'.1.2, c2'.2.1, c2'.2.2, c3'.1.1, c3'.1.2, c3'.2.1, c3'.2.2⟩, ?_⟩
            rw [a6, a7, a8]
            refine r196 b2 (by omega) (by omega) (by omega) (by omega) ?_
            intro d hd d1 d2
            refine ⟨hd, ?_⟩
            change _ ↔ MW (ordA σ) _ < MW (ordA σ) _ at d1
            change _ ↔ MW (ordA σ) _ < MW (ordA σ) _ at d2
            by_cases e1 : 0 < d
            · rw [if_pos e1]
              intro ω ew
              have := d1.1 e1
              exact ⟨by rw [q2, if_neg (by omega), if_neg (by omega)], pair_e hC hR (by decide) et eu ew⟩
            · rw [if_neg e1]
              by_cases e2 : d < 0
              · rw [if_pos e2]
                intro ω ew
                have := d2.1 e2
                exact ⟨by rw [q2, if_pos (by omega)], pair_e hC hR (by decide) et eu ew⟩
              · rw [if_neg e2]
                intro ω ew
                have n1 : ¬ MW (ordA σ) (u + 16 * v + 256 * w) < MW (ordA σ) (x + 16 * y + 256 * z) := fun q => e1 (d1.2 q)
                have n2 : ¬ MW (ordA σ) (x + 16 * y + 256 * z) < MW (ordA σ) (u + 16 * v + 256 * w) := fun q => e2 (d2.2 q)
                exact ⟨by rw [q2, if_neg n2, if_pos (by omega)], pair_e hC hR (by decide) et eu ew⟩
          · rw [if_neg c3']
            exact two (fun q => c3' ⟨q.2.2.1, q.2.2.2⟩)
        · rw [if_neg c2']
          exact two (fun q => c2' ⟨q.1.2.2, q.2.1⟩)
      · rw [if_neg c1']
        exact two (fun q => c1' ⟨q.1.1, q.1.2.1⟩)
  refine o120 ?_
  unfold w120
  rw [B5]
  refine ⟨rg14, ?_⟩
  by_cases z0 : σ 186 14 = 0
  · rw [if_pos z0]
    intro τ et
    exact hgo 1 _ τ et (fun _ => ⟨rfl, rfl⟩) (fun q => absurd z0 q) (fun q => absurd z0 q)
  · rw [if_neg z0]
    refine ⟨⟨hx, hy, hz⟩, ?_⟩
    by_cases c1' : isE3 x y z
    · rw [if_pos c1']
      refine ⟨⟨hu, hv, hw⟩, ?_⟩
      by_cases c2' : isE3 u v w
      · rw [if_pos c2']
        obtain ⟨-, -, -, -, -, -, D7, -⟩ := hC.2.1 (h01.resolve_left z0)
        have em : ∀ x y z : Int, isE3 x y z → x * σ (36 + 1) 0 + y * σ (36 + 1) 1 + z * σ (36 + 1) 2 = MW (ordA σ) (x + 16 * y + 256 * z) := fun x y z he => by
          obtain ⟨⟨x0, x1⟩, ⟨y0, y1⟩, ⟨z0, z1⟩⟩ := he
          have := MW_U (ordA σ) (x + 16 * y + 256 * z)
          rw [e4_d0 x0 x1, e4_d1 x0 x1 y0 y1, e4_d2 x0 x1 y0 y1 z0 z1] at this
          rw [← this, show (36 + 1 : Nat) = 37 from rfl, D7 0 (by decide) (by decide), D7 1 (by decide) (by decide), D7 2 (by decide) (by decide)]
        rw [em x y z c1', em u v w c2']
        refine ⟨⟨MW_rg (wt_ok _ _ _) _, MW_rg (wt_ok _ _ _) _⟩, ?_⟩
        intro τ et
        exact hgo 0 _ τ et (fun q => absurd q z0) (fun _ q => absurd ⟨c1', c2'⟩ q) (fun _ _ => ⟨rfl, rfl⟩)
      · rw [if_neg c2']
        intro τ et
        exact hgo 2 _ τ et (fun q => absurd q z0) (fun _ _ => ⟨rfl, rfl⟩) (fun _ q => absurd q.2 c2')
    · rw [if_neg c1']
      intro τ et
      exact hgo 2 _ τ et (fun q => absurd q z0) (fun _ _ => ⟨rfl, rfl⟩) (fun _ q => absurd q.1 c1')
