/-! ===== pair ===== -/
theorem pair_pair {F : l2_m → Prop} {B : va_E} {r s k : Int} (hr : rg r) (hs : rg s) (hk : rg k) : PAIR F B 135 252 [vi r, vi s, vi k] := by
  intro σ hC hR
  have B5 := hC.1.2.2.2.2.1
  have h01 := hR.1
  have bad : ¬ (σ 186 14 = 1 ∧ (0 ≤ r ∧ r < 8) ∧ (0 ≤ s ∧ s < 8) ∧ (0 ≤ k ∧ k < 8)) → ∀ τ, τ = trb σ 1 → wC B 252 [vr 186, vi r, vi s, vi k] τ (fun y υ => -1 = y ∧ CI F υ υ ∧ RWF υ) := by
    intro hb τ et
    refine o252 ?_
    unfold w252
    intro υ eu
    rw [via et eu (b := 186) (j := 14) (by decide) (by decide)]
    refine ⟨⟨hr, hs, hk, h01⟩, ?_⟩
    rw [if_neg hb]
    intro ω ew
    exact ⟨rfl, pair_e hC hR (by decide) et eu ew⟩
  refine o135 ?_
  unfold w135
  rw [B5]
  refine ⟨⟨hr, h01⟩, ?_⟩
  by_cases h1 : σ 186 14 = 1 ∧ 0 ≤ r ∧ r < 8
  · rw [if_pos h1]
    refine ⟨hs, ?_⟩
    by_cases h2 : σ 186 14 = 1 ∧ 0 ≤ s ∧ s < 8
    · rw [if_pos h2]
      refine ⟨hk, ?_⟩
      by_cases h3 : σ 186 14 = 1 ∧ 0 ≤ k ∧ k < 8
      · rw [if_pos h3]
        obtain ⟨b1, b2, b3, b4, b5, b6⟩ := hR.2.2.2.2.2.2.2.2.2 h1.1
        obtain ⟨D1, D2, D3, D4, D5, D6, D7, D8⟩ := hC.2.1 h1.1
        obtain ⟨p2, p97, -⟩ := pr_rest _ b1
        have fa := D8 r h1.2.1 h1.2.2
        have fb := D8 s h2.2.1 h2.2.2
        have na := PR_cnt fa
        have nb := PR_cnt fb
        have a0 := fa.1
        have a6 := fa.2.1
        have c0 := fb.1
        have c6 := fb.2.1
        have start : ∀ (τ : l2_m) (Q : Int → l2_m → Prop), (∀ b j, 186 ≤ b → τ b j = σ b j) → (∀ υ : l2_m, υ = l2_u τ 186 0 0 → (r = s → ∀ ω, ω = trr υ 1 → Q (-1) ω) ∧ (r ≠ s → (cnt (regR σ r) 4096 = 0 ∨ cnt (regR σ s) 4096 = 0) → ∀ ω, ω = trr υ 5 → Q (-1) ω) ∧ (r ≠ s → cnt (regR σ r) 4096 ≠ 0 → cnt (regR σ s) 4096 ≠ 0 → wC B 236 [vr 186, vi r, vi s] υ (fun y t => rg y ∧ (if y = 0 then (∀ ω : l2_m, ω = trr t 3 → Q (-1) ω) else (wC B 240 [vr 186, vi k] t Q))))) → wC B 252 [vr 186, vi r, vi s, vi k] τ Q := by
          intro τ Q kt hQ
          refine o252 ?_
          unfold w252
          intro υ eu
          obtain ⟨g1, g2, g3⟩ := hQ υ eu
          have e : ∀ b j, 186 ≤ b → ¬ (b = 186 ∧ j = 0) → υ b j = σ b j := fun b j z w => by rw [eu]; unfold l2_u; rw [if_neg w]; exact kt b j z
          have e187 : ∀ q j : Int, υ 187 (4096 * q + j) = σ 187 (4096 * q + j) := fun q j => e 187 _ (by decide) (by omega)
          have er : ∀ q, (fun j => υ 187 (4096 * q + j)) = regR σ q := fun q => funext (fun j => e187 q j)
          have rgq : ∀ q : Int, 0 ≤ q → q < 8 → ∀ j : Int, 0 ≤ j → j < 4096 → rg (υ 187 (4096 * q + j)) := fun q q0 q1 j j0 j1 => by rw [e187]; have := b3 q j q0 q1 j0 j1; exact ⟨by omega, by omega⟩
          rw [e 186 14 (by decide) (by omega), er, er]
          refine ⟨⟨hr, hs, hk, h01⟩, ?_⟩
          rw [if_pos ⟨h1.1, h1.2, h2.2, h3.2⟩]
          by_cases hrs : r = s
          · rw [if_pos hrs]; exact g1 hrs
          · rw [if_neg hrs]
            refine ⟨⟨h1.2.1, h1.2.2, rgq r h1.2.1 h1.2.2⟩, ?_⟩
            by_cases z1 : cnt (regR σ r) 4096 = 0
            · rw [if_pos z1]; exact g2 hrs (Or.inl z1)
            · rw [if_neg z1]
              refine ⟨⟨h2.2.1, h2.2.2, rgq s h2.2.1 h2.2.2⟩, ?_⟩
              by_cases z2 : cnt (regR σ s) 4096 = 0
              · rw [if_pos z2]; exact g2 hrs (Or.inr z2)
              · rw [if_neg z2]; exact g3 hrs z1 z2
        have kt1 : ∀ (n : Int) (τ : l2_m), τ = trb σ n → ∀ b j, 186 ≤ b → τ b j = σ b j := fun n τ et b j z => by rw [et, trb_at, if_neg (by omega), if_neg (by omega)]
        by_cases hrs : r = s
        · rw [if_pos hrs]
          intro τ et
          refine start τ _ (kt1 1 τ et) (fun υ eu => ⟨fun _ ω ew => ⟨rfl, pair_e hC hR (by decide) et eu ew⟩, fun w => absurd hrs w, fun w => absurd hrs w⟩)
        · rw [if_neg hrs]
          refine ⟨⟨h1.2.1, h1.2.2, ⟨by omega, by omega⟩⟩, ?_⟩
          by_cases z1 : σ (162 + 3 * Int.toNat r) 2 = 0
          · rw [if_pos z1]
            intro τ et
            exact start τ _ (kt1 5 τ et) (fun υ eu => ⟨fun w => absurd w hrs, fun _ _ ω ew => ⟨rfl, pair_e hC hR (by decide) et eu ew⟩, fun _ w => absurd (na.trans z1) w⟩)
          · rw [if_neg z1]
            refine ⟨⟨h2.2.1, h2.2.2, ⟨by omega, by omega⟩⟩, ?_⟩
            by_cases z2 : σ (162 + 3 * Int.toNat s) 2 = 0
            · rw [if_pos z2]
              intro τ et
              exact start τ _ (kt1 5 τ et) (fun υ eu => ⟨fun w => absurd w hrs, fun _ _ ω ew => ⟨rfl, pair_e hC hR (by decide) et eu ew⟩, fun _ _ w => absurd (nb.trans z2) w⟩)
            · rw [if_neg z2]
              have noz : (cnt (regR σ r) 4096 = 0 ∨ cnt (regR σ s) 4096 = 0) → False := fun w => by omega
              obtain ⟨ka, ka0, ka1, ka2, ka3, ka4, ka5⟩ := PR_lead fa (by omega)
              obtain ⟨kb, kb0, kb1, kb2, kb3, kb4, kb5⟩ := PR_lead fb (by omega)
              have ra := b3 r ka h1.2.1 h1.2.2 ka0 ka1
              have rb := b3 s kb h2.2.1 h2.2.2 kb0 kb1
              have pa : 0 < regR σ r ka := by
                have q1 : 0 ≤ regR σ r ka := ra.1
                omega
              have pb : 0 < regR σ s kb := by
                have q1 : 0 ≤ regR σ s kb := rb.1
                omega
              have ia : σ 35 (regR σ r ka) = ivp (σ 186 5) (regR σ r ka) := invOK_ivp (q := 34) D2 pa ra.2
              have ib : σ 35 (regR σ s kb) = ivp (σ 186 5) (regR σ s kb) := invOK_ivp (q := 34) D2 pb rb.2
              obtain ⟨h, hh⟩ : ∃ h : Int → Int, h = mixF (σ 186 5) (ivp (σ 186 5) (regR σ r ka)) (lcmK ka kb - ka) (regR σ r) (σ 186 5 - ivp (σ 186 5) (regR σ s kb)) (lcmK ka kb - kb) (regR σ s) := ⟨_, rfl⟩
              have hm : ∀ j : Int, 0 ≤ j → j < 4096 → 0 ≤ h j ∧ h j < σ 186 5 := fun j _ _ => by rw [hh]; exact ⟨Int.emod_nonneg _ (by omega), Int.emod_lt_of_pos _ (by omega)⟩
              have ref : ∀ (τ υ : l2_m) (Q : Int → l2_m → Prop), (∀ b j, 186 ≤ b → τ b j = σ b j) → υ = l2_u τ 186 0 0 → (∀ t : l2_m, (∀ b j, b ≠ 192 → ¬ (b = 186 ∧ j = 29) → t b j = υ b j) → (∀ j : Int, 0 ≤ j → j < 4096 → t 192 j = h j) → t 186 29 = 1 → (∀ k : Int, 0 ≤ k → k < 4096 → regR σ r k ≠ 0 → noO k (lcmK ka kb - ka)) → (∀ k : Int, 0 ≤ k → k < 4096 → regR σ s k ≠ 0 → noO k (lcmK ka kb - kb)) → cnt h 4096 ≤ 60 → wC B 240 [vr 186, vi k] t Q) → (∀ t : l2_m, (∀ b j, b ≠ 192 → ¬ (b = 186 ∧ j = 29) → t b j = υ b j) → ((∃ k : Int, 0 ≤ k ∧ k < 4096 ∧ regR σ r k ≠ 0 ∧ ¬ noO k (lcmK ka kb - ka)) ∨ (∃ k : Int, 0 ≤ k ∧ k < 4096 ∧ regR σ s k ≠ 0 ∧ ¬ noO k (lcmK ka kb - kb)) ∨ 60 < cnt h 4096) → ∀ ω, ω = trr t 3 → Q (-1) ω) → wC B 236 [vr 186, vi r, vi s] υ (fun y t => rg y ∧ (if y = 0 then (∀ ω : l2_m, ω = trr t 3 → Q (-1) ω) else (wC B 240 [vr 186, vi k] t Q))) := by
                intro τ υ Q kt eu g1 g0
                have e : ∀ b j, 186 ≤ b → ¬ (b = 186 ∧ j = 0) → υ b j = σ b j := fun b j z w => by rw [eu]; unfold l2_u; rw [if_neg w]; exact kt b j z
                have e187 : ∀ q j : Int, υ 187 (4096 * q + j) = σ 187 (4096 * q + j) := fun q j => e 187 _ (by decide) (by omega)
                have e190 : ∀ j : Int, υ 190 j = σ 190 j := fun j => e 190 _ (by decide) (by omega)
                have er : ∀ q, regR υ q = regR σ q := fun q => funext (fun j => e187 q j)
                refine r236 (W := ordA σ) (p := σ 186 5) (ka := ka) (kb := kb) (e 186 5 (by decide) (by omega)) b1 h1.2.1 h1.2.2 h2.2.1 h2.2.2 (fun q j q0 q1 j0 j1 => by rw [e187]; exact b3 q j q0 q1 j0 j1) ⟨fun i x0 x1 => by rw [e190]; exact b5.1 i x0 x1, fun i j x0 x1 x2 => by rw [e190, e190]; exact b5.2.1 i j x0 x1 x2, fun j x0 x1 => by obtain ⟨i, y0, y1, y2⟩ := b5.2.2 j x0 x1; exact ⟨i, y0, y1, by rw [e190]; exact y2⟩⟩ (by rw [er]; exact ⟨ka0, ka1, ka4, ka5⟩) (by rw [er]; exact ⟨kb0, kb1, kb4, kb5⟩) (fun t t1 t2 t3 t4 t5 t6 => ⟨by decide, ?_⟩) (fun t t1 t2 => ⟨by decide, ?_⟩)
                · rw [if_neg (by decide)]
                  rw [er, er, ← hh] at t2 t6
                  rw [er] at t4 t5
                  exact g1 t t1 t2 t3 t4 t5 t6
                · rw [if_pos rfl]
                  rw [er, er, ← hh] at t2
                  exact g0 t t1 t2
              refine c8 (p := σ 186 5) (ka := ka) (kb := kb) (isP_reg h1.2.1 h1.2.2) (isP_reg h2.2.1 h2.2.2) (show isPb 159 = true from rfl) (by omega) (by omega) (wt_ok _ _ _) D1 p2 p97 D7 D2 fa fb (fun j j0 j1 => b3 r j h1.2.1 h1.2.2 j0 j1) (fun j j0 j1 => b3 s j h2.2.1 h2.2.2 j0 j1) (by omega) (by omega) ka0 ka1 ka2 kb0 kb1 kb2 (fun σ1 t1 t2 t3 t4 => ?_) (fun σ1 t1 t2 => ?_)
              · rw [ia, ib, ← hh] at t4
                obtain ⟨f1, f2, f3⟩ := fr159 hC (fun b j _ q1 q2 q3 => t1 b j q1 q2 q3)
                refine o163 ?_
                unfold w163
                refine ⟨by decide, ?_⟩
                rw [if_neg (by decide)]
                refine lay_c hC hR h1.1 h3.2.1 h3.2.2 f1 f2 f3 t4 ?_
                intro τ kt hL h60
                refine start τ _ kt (fun υ eu => ⟨fun w => absurd w hrs, fun _ w => (noz w).elim, fun _ _ _ => ref τ υ _ kt eu (fun t v1 v2 v3 _ _ _ => ?_) (fun t v1 v2 => ?_)⟩)
                · refine lay_r hR h1.1 h3.2.1 h3.2.2 hL (fun b j y1 y2 y3 y4 => ?_) (fun b j y => ?_) v3 v2 hm h60
                  · rw [v1 b j (by omega) (by omega), eu]; unfold l2_u; rw [if_neg (by omega)]; exact kt b j y1
                  · rw [v1 b j (by omega) (by omega), eu]; unfold l2_u; rw [if_neg (by omega)]
                · rcases v2 with ⟨q, q0, q1, q2, q3⟩ | ⟨q, q0, q1, q2, q3⟩ | v2
                  · exact absurd (t2 q q0 q1 q2) q3
                  · exact absurd (t3 q q0 q1 q2) q3
                  · omega
              · rw [ia, ib, ← hh] at t2
                obtain ⟨f1, f2, f3⟩ := fr159 hC (fun b j _ q1 q2 q3 => t1 b j q1 q2 q3)
                refine o163 ?_
                unfold w163
                refine ⟨by decide, ?_⟩
                rw [if_pos rfl]
                intro τ et
                have kt : ∀ b j, 186 ≤ b → τ b j = σ b j := fun b j z => by rw [et, trb_at, if_neg (by omega), if_neg (by omega)]; exact f2 b j z
                refine start τ _ kt (fun υ eu => ⟨fun w => absurd w hrs, fun _ w => (noz w).elim, fun _ _ _ => ref τ υ _ kt eu (fun t v1 v2 v3 v4 v5 v6 => ?_) (fun t v1 v2 ω ew => ⟨rfl, pair_g (σ' := σ1) (υ' := t) hC hR (by decide) (fun b j z => ?_) f3 et eu (fun b j z => v1 b j (by unfold prs at z; omega) (by unfold prs at z; omega)) ew⟩)⟩)
                · rcases t2 with ⟨q, q0, q1, q2, q3⟩ | ⟨q, q0, q1, q2, q3⟩ | t2
                  · exact absurd (v4 q q0 q1 q2) q3
                  · exact absurd (v5 q q0 q1 q2) q3
                  · omega
                · rcases z with z | z
                  · exact f1 b j (Or.inl z)
                  · exact f2 b j (by unfold prs at z; omega)
      · rw [if_neg h3]
        exact bad (fun w => h3 ⟨w.1, w.2.2.2⟩)
    · rw [if_neg h2]
      exact bad (fun w => h2 ⟨w.1, w.2.2.1⟩)
  · rw [if_neg h1]
    exact bad (fun w => h1 ⟨w.1, w.2.1⟩)
