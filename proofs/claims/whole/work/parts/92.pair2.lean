/-! ===== pairs that lay nothing ===== -/
/-- what is read of the reference's things after the class's part of a call -/
theorem via {σ τ υ : l2_m} {n : Int} (et : τ = trb σ n) (eu : υ = l2_u τ 186 0 0) {b : Nat} {j : Int} (h : b ≠ 32) (h' : b = 186 → j ≠ 0) : υ b j = σ b j := by
  rw [eu]
  unfold l2_u
  rw [if_neg (fun w => h' w.1 w.2), et, trb_at, if_neg (fun w => h w.1), if_neg (fun w => h w.1)]
/-- trouble alone on both sides, with scratch on both sides -/
theorem pair_g {F : l2_m → Prop} {σ σ' τ υ υ' ω : l2_m} {n : Int} (hC : CI F σ σ) (hR : RWF σ) (hn : rg n) (k : ∀ b j, cpt b j ∨ prs b j → σ' b j = σ b j) (kd : dvO σ') (et : τ = trb σ' n) (eu : υ = l2_u τ 186 0 0) (kr : ∀ b j, b < 186 ∨ prs b j → υ' b j = υ b j) (ew : ω = trr υ' n) : CI F ω ω ∧ RWF ω := by
  obtain ⟨c1', c2', c3', c4', c5'⟩ := trb_c σ' n
  rw [← et] at c1' c2' c3' c4' c5'
  have a : ∀ b j, ω b j = if b = 186 ∧ j = 2 then -1 else if b = 186 ∧ j = 1 then n else υ' b j := fun b j => by rw [ew]; rfl
  refine pair_tr (τ := τ) hC hR hn (fun b j z => (c1' b j z).trans (k b j z)) (c2' kd) c3' c4' (fun b j z => ?_) (fun b j z w => ?_) ?_ ?_
  · rw [a, if_neg (by omega), if_neg (by omega), kr b j (Or.inl z), eu]
    exact l2_u_ne (by omega)
  · rw [a, if_neg (by omega), if_neg (by omega), kr b j (Or.inr z), eu]
    unfold l2_u
    unfold prs at z
    rw [if_neg (by omega)]
  · rw [a, if_neg (by decide), if_pos ⟨rfl, rfl⟩]
  · rw [a, if_pos ⟨rfl, rfl⟩]
theorem pair_e {F : l2_m → Prop} {σ τ υ ω : l2_m} {n : Int} (hC : CI F σ σ) (hR : RWF σ) (hn : rg n) (et : τ = trb σ n) (eu : υ = l2_u τ 186 0 0) (ew : ω = trr υ n) : CI F ω ω ∧ RWF ω := pair_g hC hR hn (fun _ _ _ => rfl) hC.2.2.2.2.1 et eu (fun _ _ _ => rfl) ew
/-- nothing is told -/
theorem pair_0 {F : l2_m → Prop} {σ υ : l2_m} (hC : CI F σ σ) (hR : RWF σ) (eu : υ = l2_u σ 186 0 0) : CI F υ υ ∧ RWF υ := by
  have a : ∀ b j, ¬ (b = 186 ∧ j = 0) → υ b j = σ b j := fun b j w => by rw [eu]; unfold l2_u; rw [if_neg w]
  have hdo := hC.2.2.2.2.1
  obtain ⟨B1, B2, B3, B4, B5, B6⟩ := hC.1
  refine ⟨CI_cg hC (fun b j z => a b j (by unfold cpt at z; omega)) ?_ (fun b j z w => a b j (by unfold prs at z; omega)) ?_ ?_, RWF_cg hR (fun b j z w => a b j (by unfold prs at z; omega)) ?_ ?_⟩
  · unfold dvO; rw [a 74 3 (by omega), a 74 4 (by omega)]; exact hdo
  · rw [a 32 2 (by omega), a 186 1 (by omega)]; exact B2
  · rw [a 32 4 (by omega), a 186 2 (by omega)]; exact B4
  · rw [a 186 1 (by omega)]; exact hR.2.2.2.1
  · rw [a 186 2 (by omega)]; exact hR.2.2.2.2.1
theorem pair_fault {F : l2_m → Prop} {B : va_E} : PAIR F B 109 191 [] := by
  intro σ hC hR
  refine o109 ?_
  unfold w109
  refine o191 ?_
  unfold w191
  intro υ eu
  refine ⟨?_, pair_0 hC hR eu⟩
  rw [eu, l2_u_nj (by decide)]; exact hC.1.2.2.1
theorem pair_where {F : l2_m → Prop} {B : va_E} : PAIR F B 110 192 [] := by
  intro σ hC hR
  refine o110 ?_
  unfold w110
  refine o192 ?_
  unfold w192
  intro υ eu
  refine ⟨?_, pair_0 hC hR eu⟩
  rw [eu, l2_u_nj (by decide)]; exact hC.1.2.2.2.1
theorem pair_trouble {F : l2_m → Prop} {B : va_E} : PAIR F B 144 278 [] := by
  intro σ hC hR
  refine o144 ?_
  unfold w144
  refine o278 ?_
  unfold w278
  intro υ eu
  refine ⟨?_, pair_0 hC hR eu⟩
  rw [eu, l2_u_nj (by decide)]; exact hC.1.2.1
theorem pair_same {F : l2_m → Prop} {B : va_E} {r s : Int} (hr : rg r) (hs : rg s) : PAIR F B 119 218 [vi r, vi s] := by
  intro σ hC hR
  obtain ⟨⟨B1, B2, B3, B4, B5, B6⟩, hD, -⟩ := id hC
  have h01 := hR.1
  refine o119 ?_
  unfold w119
  rw [B5]
  refine ⟨⟨hr, h01⟩, ?_⟩
  by_cases hc : σ 186 14 = 1 ∧ 0 ≤ r ∧ r < 8
  · rw [if_pos hc]
    refine ⟨hs, ?_⟩
    by_cases hd : σ 186 14 = 1 ∧ 0 ≤ s ∧ s < 8
    · rw [if_pos hd]
      refine ⟨⟨hc.2.1, hc.2.2, hd.2.1, hd.2.2⟩, ?_⟩
      obtain ⟨b1, b2, b3, b4, b5, b6⟩ := hR.2.2.2.2.2.2.2.2.2 hc.1
      obtain ⟨-, -, -, -, -, -, -, D8⟩ := hD hc.1
      obtain ⟨p2, p97, -⟩ := pr_rest _ b1
      have rf : ∀ q : Int, 0 ≤ q → q < 8 → ∀ k : Int, 0 ≤ k → k < 4096 → 0 ≤ regR σ q k ∧ regR σ q k < 97 := fun q q0 q1 k k0 k1 => by have := b3 q k q0 q1 k0 k1; exact ⟨this.1, by unfold regR; omega⟩
      have ref : ∀ (y : Int) (τ : l2_m), τ = trb σ 0 → ((∀ k : Int, 0 ≤ k → k < 4096 → regR σ r k = regR σ s k) → y = 1) → ((∃ k : Int, 0 ≤ k ∧ k < 4096 ∧ regR σ r k ≠ regR σ s k) → y = 0) → wC B 218 [vr 186, vi r, vi s] τ (fun z υ => y = z ∧ CI F υ υ ∧ RWF υ) := by
        intro y τ et y1 y0
        refine o218 ?_
        unfold w218
        intro υ eu
        rw [via et eu (by decide) (by decide)]
        refine ⟨⟨hr, h01⟩, ?_⟩
        rw [if_pos hc]
        refine ⟨hs, ?_⟩
        rw [if_pos hd]
        unfold w218_32
        refine lz2_inv (fun x i => 0 ≤ i ∧ i ≤ 4096 ∧ (x = 0 ∨ x = 1) ∧ (x = 1 → ∀ k : Int, 0 ≤ k → k < i → regR σ r k = regR σ s k) ∧ (x = 0 → ∃ k : Int, 0 ≤ k ∧ k < 4096 ∧ regR σ r k ≠ regR σ s k)) (fun _ i => 4096 - i) ?_ ⟨by decide, by decide, Or.inr rfl, fun _ k k0 k1 => by omega, fun z => by omega⟩
        intro X x i hX ⟨i0, i1, x01, h1, h0⟩
        have e : ∀ q : Int, υ 187 (4096 * q + i) = regR σ q i := fun q => via et eu (by decide) (fun w => by omega)
        refine ⟨⟨by omega, by omega⟩, ?_⟩
        by_cases hi : i < 4096
        · rw [if_pos hi]
          refine ⟨⟨by omega, by omega⟩, ?_⟩
          rw [e, e]
          have a1 := rf r hc.2.1 hc.2.2 i i0 hi
          have a2 := rf s hd.2.1 hd.2.2 i i0 hi
          refine ⟨fun _ => ⟨hc.2.1, hc.2.2, i0, hi, hd.2.1, hd.2.2, ⟨by omega, by omega⟩, ⟨by omega, by omega⟩⟩, ?_⟩
          by_cases hx : x = 0 ∨ ¬ regR σ r i = regR σ s i
          · rw [if_pos hx]
            refine hX 0 (i + 1) ⟨by omega, by omega, Or.inl rfl, fun z => by omega, fun _ => ?_⟩ (by omega)
            rcases hx with hx | hx
            · exact h0 hx
            · exact ⟨i, i0, hi, hx⟩
          · rw [if_neg hx]
            have hx1 : x = 1 := by
              rcases x01 with w | w
              · exact absurd (Or.inl w) hx
              · exact w
            have hx2 : regR σ r i = regR σ s i := Classical.byContradiction (fun w => hx (Or.inr w))
            refine hX 1 (i + 1) ⟨by omega, by omega, Or.inr rfl, fun _ k k0 k1 => ?_, fun z => by omega⟩ (by omega)
            by_cases hk : k = i
            · rw [hk]; exact hx2
            · exact h1 hx1 k k0 (by omega)
        · rw [if_neg hi]
          refine ⟨⟨by omega, by omega⟩, ?_⟩
          by_cases hx : x = 0
          · rw [if_pos hx]
            intro ω ew
            exact ⟨y0 (h0 hx), pair_e hC hR (by decide) et eu ew⟩
          · rw [if_neg hx]
            intro ω ew
            exact ⟨y1 (fun k k0 k1 => h1 (x01.resolve_left hx) k k0 (by omega)), pair_e hC hR (by decide) et eu ew⟩
      refine c87 (isP_reg hc.2.1 hc.2.2) (isP_reg hd.2.1 hd.2.2) (wt_ok _ _ _) (D8 r hc.2.1 hc.2.2) (D8 s hd.2.1 hd.2.2) (rf r hc.2.1 hc.2.2) (rf s hd.2.1 hd.2.2) (fun z => ⟨by decide, ?_⟩) (fun z => ⟨by decide, ?_⟩)
      · rw [if_neg (by decide)]
        intro τ et
        refine ref 1 τ et (fun _ => rfl) (fun ⟨k, k0, k1, w⟩ => absurd (z k k0 k1) w)
      · rw [if_pos rfl]
        intro τ et
        obtain ⟨k, k0, k1, w⟩ := z
        refine ref 0 τ et (fun v => absurd (v k k0 k1) w) (fun _ => rfl)
    · rw [if_neg hd]
      intro τ et
      refine o218 ?_
      unfold w218
      intro υ eu
      rw [via et eu (by decide) (by decide)]
      refine ⟨⟨hr, h01⟩, ?_⟩
      rw [if_pos hc]
      refine ⟨hs, ?_⟩
      rw [if_neg hd]
      intro ω ew
      exact ⟨rfl, pair_e hC hR (by decide) et eu ew⟩
  · rw [if_neg hc]
    intro τ et
    refine o218 ?_
    unfold w218
    intro υ eu
    rw [via et eu (by decide) (by decide)]
    refine ⟨⟨hr, h01⟩, ?_⟩
    rw [if_neg hc]
    intro ω ew
    exact ⟨rfl, pair_e hC hR (by decide) et eu ew⟩

theorem pair_coef {F : l2_m → Prop} {B : va_E} {r x y z : Int} (hr : rg r) (hx : rg x) (hy : rg y) (hz : rg z) : PAIR F B 116 212 [vi r, vi x, vi y, vi z] := by
  intro σ hC hR
  obtain ⟨⟨B1, B2, B3, B4, B5, B6⟩, hD, -⟩ := id hC
  have h01 := hR.1
  refine o116 ?_
  unfold w116
  rw [B5]
  refine ⟨⟨hr, h01⟩, ?_⟩
  have hgo : ∀ (w n : Int) (τ : l2_m), rg n → τ = trb σ n → (σ 186 14 = 1 ∧ 0 ≤ r ∧ r < 8 → isE3 x y z → n = 0 ∧ w = regR σ r (x + 16 * y + 256 * z)) → (σ 186 14 = 1 ∧ 0 ≤ r ∧ r < 8 → ¬ isE3 x y z → n = 2 ∧ w = -1) → (¬ (σ 186 14 = 1 ∧ 0 ≤ r ∧ r < 8) → n = 1 ∧ w = -1) → wC B 212 [vr 186, vi r, vi x, vi y, vi z] τ (fun q υ => w = q ∧ CI F υ υ ∧ RWF υ) := by
    intro w n τ hn et g1 g2 g3
    refine o212 ?_
    unfold w212
    intro υ eu
    rw [via et eu (b := 186) (j := 14) (by decide) (by decide)]
    refine ⟨⟨hr, h01⟩, ?_⟩
    by_cases hc : σ 186 14 = 1 ∧ 0 ≤ r ∧ r < 8
    · rw [if_pos hc]
      have two : ¬ isE3 x y z → ∀ ω, ω = trr υ 2 → w = -1 ∧ CI F ω ω ∧ RWF ω := fun v ω ew => by
        obtain ⟨q1, q2⟩ := g2 hc v
        subst q1
        exact ⟨q2, pair_e hC hR (by decide) et eu ew⟩
      refine ⟨hx, ?_⟩
      by_cases h1 : 0 ≤ x ∧ x < 16
      · rw [if_pos h1]
        refine ⟨hy, ?_⟩
        by_cases h2 : 0 ≤ y ∧ y < 16
        · rw [if_pos h2]
          refine ⟨hz, ?_⟩
          by_cases h3 : 0 ≤ z ∧ z < 16
          · rw [if_pos h3]
            refine ⟨⟨h1.1, h1.2, h2.1, h2.2, h3.1, h3.2, hc.2.1, hc.2.2, by omega, by omega⟩, ?_⟩
            intro ω ew
            obtain ⟨q1, q2⟩ := g1 hc ⟨h1, h2, h3⟩
            subst q1
            refine ⟨?_, pair_e hC hR (by decide) et eu ew⟩
            rw [q2, via et eu (by decide) (fun w => by omega)]
            rfl
          · rw [if_neg h3]
            exact two (fun v => h3 v.2.2)
        · rw [if_neg h2]
          exact two (fun v => h2 v.2.1)
      · rw [if_neg h1]
        exact two (fun v => h1 v.1)
    · rw [if_neg hc]
      intro ω ew
      obtain ⟨q1, q2⟩ := g3 hc
      subst q1
      exact ⟨q2, pair_e hC hR (by decide) et eu ew⟩
  by_cases hc : σ 186 14 = 1 ∧ 0 ≤ r ∧ r < 8
  · rw [if_pos hc]
    refine ⟨⟨hx, hy, hz⟩, ?_⟩
    by_cases he : isE3 x y z
    · rw [if_pos he]
      refine ⟨hc.2, ?_⟩
      obtain ⟨b1, b2, b3, b4, b5, b6⟩ := hR.2.2.2.2.2.2.2.2.2 hc.1
      obtain ⟨-, -, -, -, -, -, D7, D8⟩ := hD hc.1
      obtain ⟨p2, p97, -⟩ := pr_rest _ b1
      obtain ⟨⟨x0, x1⟩, ⟨y0, y1⟩, ⟨z0, z1⟩⟩ := id he
      have em : x * σ (36 + 1) 0 + y * σ (36 + 1) 1 + z * σ (36 + 1) 2 = MW (ordA σ) (x + 16 * y + 256 * z) := by
        have := MW_U (ordA σ) (x + 16 * y + 256 * z)
        rw [e4_d0 x0 x1, e4_d1 x0 x1 y0 y1, e4_d2 x0 x1 y0 y1 z0 z1] at this
        rw [← this, show (36 + 1 : Nat) = 37 from rfl, D7 0 (by decide) (by decide), D7 1 (by decide) (by decide), D7 2 (by decide) (by decide)]
      rw [em]
      refine c86 (isP_reg hc.2.1 hc.2.2) (wt_ok _ _ _) (D8 r hc.2.1 hc.2.2) (fun k k0 k1 => by have := b3 r k hc.2.1 hc.2.2 k0 k1; exact ⟨this.1, by unfold regR; omega⟩) (by omega) (by omega) ?_
      intro τ et
      exact hgo _ 0 τ (by decide) et (fun _ _ => ⟨rfl, rfl⟩) (fun _ v => absurd he v) (fun v => absurd hc v)
    · rw [if_neg he]
      intro τ et
      exact hgo _ 2 τ (by decide) et (fun _ v => absurd v he) (fun _ _ => ⟨rfl, rfl⟩) (fun v => absurd hc v)
  · rw [if_neg hc]
    intro τ et
    exact hgo _ 1 τ (by decide) et (fun v => absurd v hc) (fun v => absurd v hc) (fun _ => ⟨rfl, rfl⟩)
theorem pair_value {F : l2_m → Prop} {B : va_E} {r x y z : Int} (hr : rg r) (hx : rg x) (hy : rg y) (hz : rg z) : PAIR F B 117 216 [vi r, vi x, vi y, vi z] := by
  intro σ hC hR
  obtain ⟨⟨B1, B2, B3, B4, B5, B6⟩, hD, -⟩ := id hC
  have h01 := hR.1
  refine o117 ?_
  unfold w117
  rw [B5]
  refine ⟨⟨hr, h01⟩, ?_⟩
  by_cases hc : σ 186 14 = 1 ∧ 0 ≤ r ∧ r < 8
  · rw [if_pos hc]
    obtain ⟨b1, b2, b3, b4, b5, b6⟩ := hR.2.2.2.2.2.2.2.2.2 hc.1
    obtain ⟨D1, -, -, -, -, -, D7, D8⟩ := hD hc.1
    obtain ⟨p2, p97, -⟩ := pr_rest _ b1
    have hgo : ∀ (w n : Int) (τ : l2_m), rg n → τ = trb σ n → (((0 ≤ x ∧ x < σ 186 5) ∧ (0 ≤ y ∧ y < σ 186 5) ∧ (0 ≤ z ∧ z < σ 186 5)) → n = 0 ∧ w = valF (σ 186 5) (regR σ r) x y z) → (¬ ((0 ≤ x ∧ x < σ 186 5) ∧ (0 ≤ y ∧ y < σ 186 5) ∧ (0 ≤ z ∧ z < σ 186 5)) → n = 2 ∧ w = -1) → wC B 216 [vr 186, vi r, vi x, vi y, vi z] τ (fun q υ => w = q ∧ CI F υ υ ∧ RWF υ) := by
      intro w n τ hn et g1 g2
      refine o216 ?_
      unfold w216
      intro υ eu
      have e5' : υ 186 5 = σ 186 5 := via et eu (by decide) (by decide)
      rw [via et eu (b := 186) (j := 14) (by decide) (by decide), e5']
      refine ⟨⟨hr, h01⟩, ?_⟩
      rw [if_pos hc]
      have two : ¬ ((0 ≤ x ∧ x < σ 186 5) ∧ (0 ≤ y ∧ y < σ 186 5) ∧ (0 ≤ z ∧ z < σ 186 5)) → ∀ ω, ω = trr υ 2 → w = -1 ∧ CI F ω ω ∧ RWF ω := fun v ω ew => by
        obtain ⟨q1, q2⟩ := g2 v
        subst q1
        exact ⟨q2, pair_e hC hR (by decide) et eu ew⟩
      refine ⟨⟨hx, by omega, p97⟩, ?_⟩
      by_cases h1 : 0 ≤ x ∧ x < σ 186 5
      · rw [if_pos h1]
        refine ⟨hy, ?_⟩
        by_cases h2 : 0 ≤ y ∧ y < σ 186 5
        · rw [if_pos h2]
          refine ⟨hz, ?_⟩
          by_cases h3 : 0 ≤ z ∧ z < σ 186 5
          · rw [if_pos h3]
            obtain ⟨q1, q2⟩ := g1 ⟨h1, h2, h3⟩
            subst q1
            have er : ∀ q k : Int, υ 187 (4096 * q + k) = σ 187 (4096 * q + k) := fun q k => via et eu (by decide) (fun w => by omega)
            have hrr : rngR υ (σ 186 5) := fun q k q0 q1 k0 k1 => by rw [er]; exact b3 q k q0 q1 k0 k1
            have e60 : cnt (regR υ r) 4096 ≤ 60 := by
              have : regR υ r = regR σ r := funext (fun k => er r k)
              rw [this]; exact b4 r hc.2.1 hc.2.2
            refine r214 hc.2.1 hc.2.2 p97 hrr e60 ?_
            intro υ' k1 k2
            have er' : regR υ' r = regR σ r := funext (fun k => by show υ' 187 _ = _; rw [k1 187 _ (by decide) (by omega)]; exact er r k)
            refine r215 (p := σ 186 5) (by rw [k1 186 5 (by decide) (by omega)]; exact e5') p2 p97 hc.2.1 hc.2.2 (fun q k q0 q1 k0 k1' => by rw [k1 187 _ (by decide) (by omega)]; exact hrr q k q0 q1 k0 k1') k2 h1.1 h1.2 h2.1 h2.2 h3.1 h3.2 ?_
            intro ω ew
            refine ⟨by rw [er', q2], pair_g (σ' := σ) (υ' := υ') hC hR (by decide) (fun _ _ _ => rfl) hC.2.2.2.2.1 et eu (fun b j v => k1 b j (by unfold prs at v; omega) (by unfold prs at v; omega)) ew⟩
          · rw [if_neg h3]
            exact two (fun v => h3 v.2.2)
        · rw [if_neg h2]
          exact two (fun v => h2 v.2.1)
      · rw [if_neg h1]
        exact two (fun v => h1 v.1)
    rw [D1]
    refine ⟨⟨⟨by omega, by omega⟩, hx⟩, ?_⟩
    by_cases h1 : 0 ≤ x ∧ x < σ 186 5
    · rw [if_pos h1]
      refine ⟨hy, ?_⟩
      by_cases h2 : 0 ≤ y ∧ y < σ 186 5
      · rw [if_pos h2]
        refine ⟨hz, ?_⟩
        by_cases h3 : 0 ≤ z ∧ z < σ 186 5
        · rw [if_pos h3]
          refine ⟨hc.2, ?_⟩
          refine c13 (p := σ 186 5) (isP_reg hc.2.1 hc.2.2) (wt_ok _ _ _) D1 p2 p97 (D8 r hc.2.1 hc.2.2) (fun k k0 k1 => b3 r k hc.2.1 hc.2.2 k0 k1) h1.1 h1.2 h2.1 h2.2 h3.1 h3.2 ?_
          intro τ et
          exact hgo _ 0 τ (by decide) et (fun _ => ⟨rfl, rfl⟩) (fun v => absurd ⟨h1, h2, h3⟩ v)
        · rw [if_neg h3]
          intro τ et
          exact hgo _ 2 τ (by decide) et (fun v => absurd v.2.2 h3) (fun _ => ⟨rfl, rfl⟩)
      · rw [if_neg h2]
        intro τ et
        exact hgo _ 2 τ (by decide) et (fun v => absurd v.2.1 h2) (fun _ => ⟨rfl, rfl⟩)
    · rw [if_neg h1]
      intro τ et
      exact hgo _ 2 τ (by decide) et (fun v => absurd v.1 h1) (fun _ => ⟨rfl, rfl⟩)
  · rw [if_neg hc]
    intro τ et
    refine o216 ?_
    unfold w216
    intro υ eu
    rw [via et eu (b := 186) (j := 14) (by decide) (by decide)]
    refine ⟨⟨hr, h01⟩, ?_⟩
    rw [if_neg hc]
    intro ω ew
    exact ⟨rfl, pair_e hC hR (by decide) et eu ew⟩
