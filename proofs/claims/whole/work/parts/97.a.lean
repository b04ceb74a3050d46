/-! ===== acts in general; scale ===== -/
/-- the reference's act: it fills `work`, then lays it -/
def RefAct (B : va_E) (σ : l2_m) (kr : Nat) (as : List Value) (k : Int) (G : l2_m → Prop) : Prop := ∀ (τ : l2_m) (Q : Int → l2_m → Prop), (∀ b j, 186 ≤ b → τ b j = σ b j) → (∀ s : l2_m, (∀ b j, b ≠ 192 → ¬ (b = 186 ∧ (j = 29 ∨ j = 0)) → s b j = τ b j) → G s → wC B 240 [vr 186, vi k] s Q) → wC B kr as τ Q
section AG
variable {F : l2_m → Prop} {B : va_E} {σ σ1 : l2_m}
theorem fr159 (hC : CI F σ σ) (t : ∀ b j, b ≠ 44 → b ≠ 159 → b ≠ 160 → b ≠ 161 → σ1 b j = σ b j) : (∀ b j, cpt b j ∨ b = 32 → σ1 b j = σ b j) ∧ (∀ b j, 186 ≤ b → σ1 b j = σ b j) ∧ dvO σ1 := by
  have hdo := hC.2.2.2.2.1
  refine ⟨fun b j z => t b j (by unfold cpt at z; omega) (by unfold cpt at z; omega) (by unfold cpt at z; omega) (by unfold cpt at z; omega), fun b j z => t b j (by omega) (by omega) (by omega) (by omega), ?_⟩
  unfold dvO; rw [t 74 3 (by decide) (by decide) (by decide) (by decide), t 74 4 (by decide) (by decide) (by decide) (by decide)]; exact hdo
theorem act_yes {k : Int} {h : Int → Int} {kr : Nat} {as : List Value} {G : l2_m → Prop} (hC : CI F σ σ) (hR : RWF σ) (ht : σ 186 14 = 1) (hk : 0 ≤ k ∧ k < 8) (t : ∀ b j, b ≠ 44 → b ≠ 159 → b ≠ 160 → b ≠ 161 → σ1 b j = σ b j) (hh : PR σ1 159 (ordA σ) h) (hm : ∀ j : Int, 0 ≤ j → j < 4096 → 0 ≤ h j ∧ h j < σ 186 5) (hA : RefAct B σ kr as k G) (hG : ∀ s, G s → s 186 29 = 1 ∧ ∀ j : Int, 0 ≤ j → j < 4096 → s 192 j = h j) : wC B 164 [vr 32, vr 159, vi k] σ1 (fun y τ => wC B kr as τ (fun z υ => y = z ∧ CI F υ υ ∧ RWF υ)) := by
  obtain ⟨f1, f2, f3⟩ := fr159 hC t
  refine lay_c hC hR ht hk.1 hk.2 f1 f2 f3 hh ?_
  intro τ kt hL h60
  refine hA τ _ kt ?_
  intro s v1 v2
  obtain ⟨g1, g2⟩ := hG s v2
  refine lay_r hR ht hk.1 hk.2 hL (fun b j z1 z2 z3 z4 => ?_) (fun b j z => ?_) g1 g2 hm h60
  · rw [v1 b j (by omega) (by omega)]; exact kt b j z1
  · exact v1 b j (by omega) (by omega)
theorem act_no {k : Int} {kr : Nat} {as : List Value} {G : l2_m → Prop} (hC : CI F σ σ) (hR : RWF σ) (ht : σ 186 14 = 1) (hk : 0 ≤ k ∧ k < 8) (t : ∀ b j, b ≠ 44 → b ≠ 159 → b ≠ 160 → b ≠ 161 → σ1 b j = σ b j) (hA : RefAct B σ kr as k G) (hG : ∀ s, G s → (s 186 29 = 0 ∨ s 186 29 = 1) ∧ (∀ j : Int, 0 ≤ j → j < 4096 → 0 ≤ s 192 j ∧ s 192 j < 97) ∧ (s 186 29 = 0 ∨ 60 < cnt (s 192) 4096)) (τ : l2_m) (et : τ = trb σ1 3) : wC B kr as τ (fun z υ => -1 = z ∧ CI F υ υ ∧ RWF υ) := by
  obtain ⟨f1, f2, f3⟩ := fr159 hC t
  have kt : ∀ b j, 186 ≤ b → τ b j = σ b j := fun b j z => by rw [et, trb_at, if_neg (by omega), if_neg (by omega)]; exact f2 b j z
  refine hA τ _ kt ?_
  intro s v1 v2
  obtain ⟨g1, g2, g3⟩ := hG s v2
  refine lay_n (σ1 := σ1) (τ := τ) (υ := l2_u τ 186 0 0) hC hR ht hk.1 hk.2 (fun b j z => ?_) f3 et rfl (fun b j z => ?_) g1 g2 g3
  · rcases z with z | z
    · exact f1 b j (Or.inl z)
    · exact f2 b j (by unfold prs at z; omega)
  · rw [v1 b j (by unfold prs at z; omega) (by unfold prs at z; omega)]
    unfold l2_u
    rw [if_neg (by unfold prs at z; omega)]
/-- what `work` holds after a register was put once into a cleared one -/
def GS (p c d : Int) (f : Int → Int) (s : l2_m) : Prop := (∀ j : Int, 0 ≤ j → j < 4096 → s 192 j = sclF p c d f j) ∧ ((c = 0 ∨ ∀ k : Int, 0 ≤ k → k < 4096 → f k ≠ 0 → noO k d) → s 186 29 = 1) ∧ ((c ≠ 0 ∧ ∃ k : Int, 0 ≤ k ∧ k < 4096 ∧ f k ≠ 0 ∧ ¬ noO k d) → s 186 29 = 0) ∧ (s 186 29 = 0 ∨ s 186 29 = 1)
/-- the cleared `work` -/
theorem clr_at {τ υ υ2 : l2_m} (eu : υ = l2_u τ 186 0 0) (e2 : υ2 = l2_u (fil υ 192 0 4096) 186 29 1) : (∀ b j, b ≠ 192 → ¬ (b = 186 ∧ (j = 29 ∨ j = 0)) → υ2 b j = τ b j) ∧ (∀ j : Int, 0 ≤ j → j < 4096 → υ2 192 j = 0) ∧ υ2 186 29 = 1 := by
  refine ⟨fun b j z w => ?_, fun j j0 j1 => ?_, ?_⟩
  · rw [e2]; unfold l2_u fil; rw [if_neg (by omega), if_neg (fun x => z x.1), eu]; unfold l2_u; rw [if_neg (by omega)]
  · rw [e2]; unfold l2_u fil; rw [if_neg (by omega), if_pos ⟨rfl, j0, j1⟩]
  · rw [e2]; unfold l2_u; rw [if_pos ⟨rfl, rfl⟩]
theorem put1 {τ υ2 : l2_m} {p r c d : Int} {Q : l2_m → Prop} (kt : ∀ b j, 186 ≤ b → τ b j = σ b j) (hp : σ 186 5 = p) (p2 : 2 ≤ p) (p97 : p ≤ 97) (hr : rngR σ p) (r0 : 0 ≤ r) (r1 : r < 8) (c0 : 0 ≤ c) (cc1 : c ≤ 97) (d0 : 0 ≤ d) (d1 : d < 4096) (u1 : ∀ b j, b ≠ 192 → ¬ (b = 186 ∧ (j = 29 ∨ j = 0)) → υ2 b j = τ b j) (u2 : ∀ j : Int, 0 ≤ j → j < 4096 → υ2 192 j = 0) (u3 : υ2 186 29 = 1) (h : ∀ s : l2_m, (∀ b j, b ≠ 192 → ¬ (b = 186 ∧ (j = 29 ∨ j = 0)) → s b j = τ b j) → GS p c d (regR σ r) s → Q s) : wC B 224 [vr 186, vi r, vi c, vi d] υ2 (fun _ s => Q s) := by
  have e187 : ∀ q k : Int, υ2 187 (4096 * q + k) = σ 187 (4096 * q + k) := fun q k => by rw [u1 187 _ (by decide) (by omega)]; exact kt 187 _ (by decide)
  have er : regR υ2 r = regR σ r := funext (fun k => e187 r k)
  refine r224 (p := p) (by rw [u1 186 5 (by decide) (by omega), kt 186 5 (by decide)]; exact hp) p2 p97 r0 r1 (fun q k q0 q1 k0 k1 => by rw [e187]; exact hr q k q0 q1 k0 k1) c0 cc1 d0 d1 (fun k k0 k1 => by rw [u2 k k0 k1]; omega) ?_
  intro s t1 t2 t3 t4
  rw [er] at t2 t3 t4
  rw [u3] at t3
  refine h s (fun b j z w => by rw [t1 b j z (by omega)]; exact u1 b j z w) ⟨fun j j0 j1 => by rw [t2 j j0 j1, u2 j j0 j1, Int.zero_add]; rfl, t3, t4, ?_⟩
  by_cases hq : c = 0 ∨ ∀ k : Int, 0 ≤ k → k < 4096 → regR σ r k ≠ 0 → noO k d
  · exact Or.inr (t3 hq)
  · refine Or.inl (t4 ⟨fun w => hq (Or.inl w), ?_⟩)
    refine Classical.byContradiction (fun w => hq (Or.inr (fun k k0 k1 k2 => Classical.byContradiction (fun v => w ⟨k, k0, k1, k2, v⟩))))
end AG
theorem pair_scale {F : l2_m → Prop} {B : va_E} {r c x y z k : Int} (hr : rg r) (hc : rg c) (hx : rg x) (hy : rg y) (hz : rg z) (hk : rg k) : PAIR F B 128 245 [vi r, vi c, vi x, vi y, vi z, vi k] := by
  intro σ hC hR
  have B5 := hC.1.2.2.2.2.1
  have h01 := hR.1
  refine o128 ?_
  unfold w128
  rw [B5]
  refine ⟨⟨hr, h01⟩, ?_⟩
  by_cases h1 : σ 186 14 = 1 ∧ 0 ≤ r ∧ r < 8
  · rw [if_pos h1]
    refine ⟨hk, ?_⟩
    by_cases h2 : σ 186 14 = 1 ∧ 0 ≤ k ∧ k < 8
    · rw [if_pos h2]
      refine ⟨⟨hx, hy, hz⟩, ?_⟩
      obtain ⟨b1, b2, b3, b4, b5, b6⟩ := hR.2.2.2.2.2.2.2.2.2 h1.1
      obtain ⟨D1, D2, D3, D4, D5, D6, D7, D8⟩ := hC.2.1 h1.1
      obtain ⟨p2, p97, -⟩ := pr_rest _ b1
      have bad : ¬ ((0 ≤ c ∧ c < σ 186 5) ∧ isE3 x y z) → ∀ τ, τ = trb σ 2 → wC B 245 [vr 186, vi r, vi c, vi x, vi y, vi z, vi k] τ (fun y υ => -1 = y ∧ CI F υ υ ∧ RWF υ) := by
        intro hb τ et
        refine o245 ?_
        unfold w245
        intro υ eu
        rw [via et eu (b := 186) (j := 14) (by decide) (by decide), via et eu (b := 186) (j := 5) (by decide) (by decide)]
        refine ⟨⟨hr, h01⟩, ?_⟩
        rw [if_pos h1]
        refine ⟨hk, ?_⟩
        rw [if_pos h2]
        refine ⟨⟨hc, by omega, p97⟩, ?_⟩
        have fin : ∀ ω, ω = trr υ 2 → -1 = (-1 : Int) ∧ CI F ω ω ∧ RWF ω := fun ω ew => ⟨rfl, pair_e hC hR (by decide) et eu ew⟩
        by_cases g1 : 0 ≤ c ∧ c < σ 186 5
        · rw [if_pos g1]
          refine ⟨hx, ?_⟩
          by_cases g2 : 0 ≤ x ∧ x < 16
          · rw [if_pos g2]
            refine ⟨hy, ?_⟩
            by_cases g3 : 0 ≤ y ∧ y < 16
            · rw [if_pos g3]
              refine ⟨hz, ?_⟩
              rw [if_neg (fun g4 => hb ⟨g1, g2, g3, g4⟩)]
              exact fin
            · rw [if_neg g3]; exact fin
          · rw [if_neg g2]; exact fin
        · rw [if_neg g1]; exact fin
      by_cases he : isE3 x y z
      · rw [if_pos he, D1]
        refine ⟨⟨⟨by omega, by omega⟩, hc⟩, ?_⟩
        by_cases hcp : 0 ≤ c ∧ c < σ 186 5
        · rw [if_pos hcp]
          refine ⟨h1.2, ?_⟩
          obtain ⟨⟨x0, x1⟩, ⟨y0, y1⟩, ⟨z0, z1⟩⟩ := id he
          have em : x * σ (36 + 1) 0 + y * σ (36 + 1) 1 + z * σ (36 + 1) 2 = MW (ordA σ) (x + 16 * y + 256 * z) := by
            have := MW_U (ordA σ) (x + 16 * y + 256 * z)
            rw [e4_d0 x0 x1, e4_d1 x0 x1 y0 y1, e4_d2 x0 x1 y0 y1 z0 z1] at this
            rw [← this, show (36 + 1 : Nat) = 37 from rfl, D7 0 (by decide) (by decide), D7 1 (by decide) (by decide), D7 2 (by decide) (by decide)]
          rw [em]
          have hA : RefAct B σ 245 [vr 186, vi r, vi c, vi x, vi y, vi z, vi k] k (GS (σ 186 5) c (x + 16 * y + 256 * z) (regR σ r)) := by
            intro τ Q kt hQ
            refine o245 ?_
            unfold w245
            intro υ eu
            have a : ∀ j : Int, j ≠ 0 → υ 186 j = σ 186 j := fun j hj => by rw [eu, l2_u_nj hj]; exact kt 186 j (by decide)
            rw [a 14 (by decide), a 5 (by decide)]
            refine ⟨⟨hr, h01⟩, ?_⟩
            rw [if_pos h1]
            refine ⟨hk, ?_⟩
            rw [if_pos h2]
            refine ⟨⟨hc, by omega, p97⟩, ?_⟩
            rw [if_pos hcp]
            refine ⟨hx, ?_⟩
            rw [if_pos he.1]
            refine ⟨hy, ?_⟩
            rw [if_pos he.2.1]
            refine ⟨hz, ?_⟩
            rw [if_pos he.2.2]
            intro υ2 e2
            refine ⟨⟨x0, x1, y0, y1, z0, z1⟩, ?_⟩
            obtain ⟨u1, u2, u3⟩ := clr_at eu e2
            exact put1 kt rfl p2 p97 b3 h1.2.1 h1.2.2 hcp.1 (by omega) (by omega) (by omega) u1 u2 u3 hQ
          have hm : ∀ j : Int, 0 ≤ j → j < 4096 → 0 ≤ sclF (σ 186 5) c (x + 16 * y + 256 * z) (regR σ r) j ∧ sclF (σ 186 5) c (x + 16 * y + 256 * z) (regR σ r) j < σ 186 5 := fun j _ _ => ⟨Int.emod_nonneg _ (by omega), Int.emod_lt_of_pos _ (by omega)⟩
          refine c2 (p := σ 186 5) (isP_reg h1.2.1 h1.2.2) (show isPb 159 = true from rfl) (by omega) (by decide) (wt_ok _ _ _) D1 p2 p97 hC.2.2.2.2.2.1 (D8 r h1.2.1 h1.2.2) (fun k k0 k1 => b3 r k h1.2.1 h1.2.2 k0 k1) hcp.1 hcp.2 (by omega) (by omega) (fun σ1 t1 t2 t3 => ?_) (fun σ1 t1 t2 t3 => ?_)
          · refine o163 ?_
            unfold w163
            refine ⟨by decide, ?_⟩
            rw [if_neg (by decide)]
            exact act_yes hC hR h1.1 h2.2 (fun b j _ q1 q2 q3 => t1 b j q1 q2 q3) t3 hm hA (fun s g => ⟨g.2.1 t2, g.1⟩)
          · refine o163 ?_
            unfold w163
            refine ⟨by decide, ?_⟩
            rw [if_pos rfl]
            refine act_no hC hR h1.1 h2.2 (fun b j _ q1 q2 q3 => t1 b j q1 q2 q3) hA (fun s g => ⟨g.2.2.2, fun j j0 j1 => by rw [g.1 j j0 j1]; have := hm j j0 j1; omega, ?_⟩)
            rcases t3 with t3 | t3
            · exact Or.inl (g.2.2.1 ⟨t2, t3⟩)
            · exact Or.inr (by rw [cnt_congr g.1]; exact t3)
        · rw [if_neg hcp]
          exact bad (fun w => hcp w.1)
      · rw [if_neg he]
        exact bad (fun w => he w.2)
    · rw [if_neg h2]
      intro τ et
      refine o245 ?_
      unfold w245
      intro υ eu
      rw [via et eu (b := 186) (j := 14) (by decide) (by decide)]
      refine ⟨⟨hr, h01⟩, ?_⟩
      rw [if_pos h1]
      refine ⟨hk, ?_⟩
      rw [if_neg h2]
      intro ω ew
      exact ⟨rfl, pair_e hC hR (by decide) et eu ew⟩
  · rw [if_neg h1]
    intro τ et
    refine o245 ?_
    unfold w245
    intro υ eu
    rw [via et eu (b := 186) (j := 14) (by decide) (by decide)]
    refine ⟨⟨hr, h01⟩, ?_⟩
    rw [if_neg h1]
    intro ω ew
    exact ⟨rfl, pair_e hC hR (by decide) et eu ew⟩
