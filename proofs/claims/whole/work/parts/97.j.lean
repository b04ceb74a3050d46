/-! ===== roots: the pair ===== -/
noncomputable def nnF (p : Int) (f : Int → Int) (u : Int) : Int := @ite Int (occ f u) (Classical.propDecidable _) p 1
theorem nnF_1 {p : Int} {f : Int → Int} {u : Int} (h : occ f u) : nnF p f u = p := by unfold nnF; rw [if_pos h]
theorem nnF_0 {p : Int} {f : Int → Int} {u : Int} (h : ¬ occ f u) : nnF p f u = 1 := by unfold nnF; rw [if_neg h]
theorem nnF_b {p : Int} (p2 : 2 ≤ p) (f : Int → Int) (u : Int) : 1 ≤ nnF p f u ∧ nnF p f u ≤ p := by
  by_cases h : occ f u
  · rw [nnF_1 h]; omega
  · rw [nnF_0 h]; omega
theorem pair_roots {F : l2_m → Prop} {B : va_E} {r : Int} (hr : rg r) : PAIR F B 118 217 [vi r] := by
  intro σ hC hR
  have B5 := hC.1.2.2.2.2.1
  have hdo := hC.2.2.2.2.1
  have h01 := hR.1
  refine o118 ?_
  unfold w118
  rw [B5]
  refine ⟨⟨hr, h01⟩, ?_⟩
  by_cases h1 : σ 186 14 = 1 ∧ 0 ≤ r ∧ r < 8
  · rw [if_pos h1]
    refine ⟨h1.2, ?_⟩
    obtain ⟨b1, b2, b3, b4, b5, b6⟩ := hR.2.2.2.2.2.2.2.2.2 h1.1
    obtain ⟨D1, D2, D3, D4, D5, D6, D7, D8⟩ := hC.2.1 h1.1
    obtain ⟨p2, p97, -⟩ := pr_rest _ b1
    obtain ⟨nn, hnn⟩ : ∃ nn : Int → Int, nn = nnF (σ 186 5) (regR σ r) := ⟨_, rfl⟩
    have nb : ∀ u, 1 ≤ nn u ∧ nn u ≤ σ 186 5 := fun u => by rw [hnn]; exact nnF_b p2 _ u
    have m1 : 1 ≤ nn 0 * nn 1 ∧ nn 0 * nn 1 ≤ 97 * 97 := by
      have q0 := nb 0
      have q1 := nb 1
      refine ⟨?_, Int.mul_le_mul (by omega) (by omega) (by omega) (by omega)⟩
      have := Int.mul_le_mul (a := 1) (b := 1) (c := nn 0) (d := nn 1) q0.1 q1.1 (by omega) (by omega)
      omega
    have m2 : 0 ≤ nn 0 * nn 1 * nn 2 ∧ nn 0 * nn 1 * nn 2 ≤ 97 * 97 * 97 := by
      have q2 := nb 2
      exact ⟨Int.mul_nonneg (by omega) (by omega), Int.mul_le_mul m1.2 (by omega) (by omega) (by omega)⟩
    have ref : ∀ (n a : Int) (σ' τ : l2_m), (∀ b j, (b < 45 ∨ 48 < b) → σ' b j = σ b j) → τ = trb σ' n → (10000 < nn 0 * nn 1 * nn 2 → n = 5 ∧ a = -1) → (nn 0 * nn 1 * nn 2 ≤ 10000 → n = 0 ∧ a = rootsF (σ 186 5) (regR σ r) (nn 0) (nn 1) (nn 2)) → wC B 217 [vr 186, vi r] τ (fun q υ => a = q ∧ CI F υ υ ∧ RWF υ) := by
      intro n a σ' τ kp et g1 g2
      have kd : dvO σ' := by
        unfold dvO; rw [kp 74 3 (by decide), kp 74 4 (by decide)]; exact hdo
      have kc : ∀ b j, cpt b j ∨ prs b j → σ' b j = σ b j := fun b j q => kp b j (by unfold cpt prs at q; omega)
      refine o217 ?_
      unfold w217
      intro υ eu
      have e : ∀ b j, 186 ≤ b → ¬ (b = 186 ∧ j = 0) → υ b j = σ b j := fun b j q1 q2 => by rw [via et eu (by omega) (fun q w => q2 ⟨q, w⟩)]; exact kp b j (by omega)
      have e5' : υ 186 5 = σ 186 5 := e 186 5 (by decide) (by omega)
      have e187 : ∀ q k : Int, υ 187 (4096 * q + k) = σ 187 (4096 * q + k) := fun q k => e 187 _ (by decide) (by omega)
      have er : regR υ r = regR σ r := funext (fun k => e187 r k)
      have hrr : rngR υ (σ 186 5) := fun q k q0 q1 k0 k1 => by rw [e187]; exact b3 q k q0 q1 k0 k1
      rw [e 186 14 (by decide) (by omega)]
      refine ⟨⟨hr, h01⟩, ?_⟩
      rw [if_pos h1]
      have last : w217_72 B υ r (nn 0) (nn 1) (nn 2) (fun q υ => a = q ∧ CI F υ υ ∧ RWF υ) := by
        unfold w217_72
        refine ⟨⟨by omega, by omega⟩, ?_⟩
        by_cases hb : 10000 < nn 0 * nn 1 * nn 2
        · rw [if_pos hb]
          obtain ⟨q1, q2⟩ := g1 hb
          subst q1
          intro ω ew
          exact ⟨q2, pair_g (σ' := σ') (υ' := υ) hC hR (by decide) kc kd et eu (fun _ _ _ => rfl) ew⟩
        · rw [if_neg hb]
          obtain ⟨q1, q2⟩ := g2 (by omega)
          subst q1
          refine r214 h1.2.1 h1.2.2 p97 hrr (by rw [er]; exact b4 r h1.2.1 h1.2.2) ?_
          intro s t1 t2
          have es : regR s r = regR σ r := by rw [← er]; exact funext (fun k => t1 187 _ (by decide) (by omega))
          refine r217l (p := σ 186 5) (f := regR σ r) (by rw [t1 186 5 (by decide) (by omega)]; exact e5') p2 p97 h1.2.1 h1.2.2 (fun q k q0 q1 k0 k1 => by rw [t1 187 _ (by decide) (by omega)]; exact hrr q k q0 q1 k0 k1) t2 es (nb 0).1 (nb 0).2 (nb 1).1 (nb 1).2 (nb 2).1 (nb 2).2 ?_
          intro ω ew
          exact ⟨q2, pair_g (σ' := σ') (υ' := s) hC hR (by decide) kc kd et eu (fun b j v => t1 b j (by unfold prs at v; omega) (by unfold prs at v; omega)) ew⟩
      have step : ∀ (u : Int) (P : Int → l2_m → Prop), 0 ≤ u → u < 3 → P (nn u) υ → wC B 210 [vr 186, vi r, vi u] υ (fun y s' => rg y ∧ (if 0 < y then P (s' 186 5) s' else P 1 s')) := by
        intro u P u0 u1 hP
        refine s210 h1.2.1 h1.2.2 u0 u1 (fun k k0 k1 => by rw [e187]; have := b3 r k h1.2.1 h1.2.2 k0 k1; exact ⟨by omega, by omega⟩) ?_
        intro d d0 d1 d2 d3
        refine ⟨⟨by omega, by omega⟩, ?_⟩
        rw [hnn] at hP
        by_cases hd : 0 < d
        · rw [if_pos hd, e5']
          rcases d3 with d3 | ⟨k, k0, k1, k2, k3⟩
          · omega
          · rw [nnF_1 ⟨k, k0, k1, by rw [e187] at k2; exact k2, by omega⟩] at hP
            exact hP
        · rw [if_neg hd]
          rw [nnF_0] at hP
          · exact hP
          · rintro ⟨k, k0, k1, k2, k3⟩
            have := d2 k k0 k1 (by rw [e187]; exact k2)
            omega
      have s2 : w217_54 B υ r (nn 0) (nn 1) (fun q υ => a = q ∧ CI F υ υ ∧ RWF υ) := by
        unfold w217_54
        exact step 2 (fun v s' => w217_72 B s' r (nn 0) (nn 1) v (fun q υ => a = q ∧ CI F υ υ ∧ RWF υ)) (by decide) (by decide) last
      have s1 : w217_36 B υ r (nn 0) (fun q υ => a = q ∧ CI F υ υ ∧ RWF υ) := by
        unfold w217_36
        exact step 1 (fun v s' => w217_54 B s' r (nn 0) v (fun q υ => a = q ∧ CI F υ υ ∧ RWF υ)) (by decide) (by decide) s2
      exact step 0 (fun v s' => w217_36 B s' r v (fun q υ => a = q ∧ CI F υ υ ∧ RWF υ)) (by decide) (by decide) s1
    refine c14 (p := σ 186 5) (nn := nn) (isP_reg h1.2.1 h1.2.2) (by omega) (wt_ok _ _ _) D1 p2 p97 (D8 r h1.2.1 h1.2.2) (fun k k0 k1 => b3 r k h1.2.1 h1.2.2 k0 k1) (fun u _ _ => by rw [hnn]; exact ⟨nnF_1, nnF_0⟩) (fun σ' t1 t2 => ?_) (fun σ' t1 t2 => ?_)
    · have rb := rootsF_b (p := σ 186 5) (f := regR σ r) (x := nn 0) (y := nn 1) (z := nn 2) (by have := (nb 0).1; omega) (by have := (nb 1).1; omega) (by have := (nb 2).1; omega)
      rw [← Int.mul_assoc] at rb
      have rr := ref 0 (rootsF (σ 186 5) (regR σ r) (nn 0) (nn 1) (nn 2)) σ'
      generalize rootsF (σ 186 5) (regR σ r) (nn 0) (nn 1) (nn 2) = w at rb rr
      refine ⟨⟨by omega, by omega⟩, ?_⟩
      rw [if_neg (by omega)]
      intro τ et
      exact rr τ t1 et (fun q => by omega) (fun _ => ⟨rfl, rfl⟩)
    · refine ⟨by decide, ?_⟩
      rw [if_pos (by decide)]
      intro τ et
      exact ref 5 (-1) σ' τ t1 et (fun _ => ⟨rfl, rfl⟩) (fun q => by omega)
  · rw [if_neg h1]
    intro τ et
    refine o217 ?_
    unfold w217
    intro υ eu
    rw [via et eu (b := 186) (j := 14) (by decide) (by decide)]
    refine ⟨⟨hr, h01⟩, ?_⟩
    rw [if_neg h1]
    intro ω ew
    exact ⟨rfl, pair_e hC hR (by decide) et eu ew⟩
