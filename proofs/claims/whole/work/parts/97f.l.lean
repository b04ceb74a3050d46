/-! ===== the last three pairs ===== -/
theorem pair_content {B : va_E} {r k : Int} (hr : rg r) (hk : rg k) : PAIR comF B 137 269 [vi r, vi k] := by
  intro σ hC hR
  have B5 := hC.1.2.2.2.2.1
  have h01 := hR.1
  have bad : ¬ (σ 186 14 = 1 ∧ 0 ≤ r ∧ r < 8) ∨ ((σ 186 14 = 1 ∧ 0 ≤ r ∧ r < 8) ∧ ¬ (σ 186 14 = 1 ∧ 0 ≤ k ∧ k < 8)) → ∀ τ, τ = trb σ 1 → wC B 269 [vr 186, vi r, vi k] τ (fun y υ => -1 = y ∧ CI comF υ υ ∧ RWF υ) := by
    intro hb τ et
    refine o269 ?_
    unfold w269
    intro υ eu
    rw [via et eu (b := 186) (j := 14) (by decide) (by decide)]
    refine ⟨⟨hr, h01⟩, ?_⟩
    rcases hb with hb | ⟨ha, hb⟩
    · rw [if_neg hb]
      intro ω ew
      exact ⟨rfl, pair_e hC hR (by decide) et eu ew⟩
    · rw [if_pos ha]
      refine ⟨hk, ?_⟩
      rw [if_neg hb]
      intro ω ew
      exact ⟨rfl, pair_e hC hR (by decide) et eu ew⟩
  refine o137 ?_
  unfold w137
  rw [B5]
  refine ⟨⟨hr, h01⟩, ?_⟩
  by_cases h1 : σ 186 14 = 1 ∧ 0 ≤ r ∧ r < 8
  · rw [if_pos h1]
    refine ⟨hk, ?_⟩
    by_cases h2 : σ 186 14 = 1 ∧ 0 ≤ k ∧ k < 8
    · rw [if_pos h2]
      obtain ⟨b1, b2, b3, b4, b5, b6⟩ := hR.2.2.2.2.2.2.2.2.2 h1.1
      obtain ⟨D1, D2, D3, D4, D5, D6, D7, D8⟩ := hC.2.1 h1.1
      obtain ⟨p2, p97, -⟩ := pr_rest _ b1
      refine ⟨h1.2, ?_⟩
      refine c89 (isP_reg h1.2.1 h1.2.2) (wt_ok _ _ _) (D8 r h1.2.1 h1.2.2) (by decide) (by decide) (fun h3 => ?_) (fun h3 => ?_)
      · refine ⟨by decide, ?_⟩
        rw [if_neg (by decide)]
        intro τ et
        refine o269 ?_
        unfold w269
        intro υ eu
        have e187 : ∀ j, υ 187 j = σ 187 j := fun j => via et eu (by decide) (fun w => by omega)
        rw [via et eu (b := 186) (j := 14) (by decide) (by decide)]
        refine ⟨⟨hr, h01⟩, ?_⟩
        rw [if_pos h1]
        refine ⟨hk, ?_⟩
        rw [if_pos h2]
        refine r267 p97 h1.2.1 h1.2.2 (rng_cg b3 e187) (fun _ => ?_) (fun w => ?_)
        · refine ⟨by decide, ?_⟩
          rw [if_neg (by decide)]
          intro ω ew
          exact ⟨rfl, pair_e hC hR (by decide) et eu ew⟩
        · obtain ⟨l, l0, l1, l2, l3⟩ := h3
          have := w l l0 l1 (by rw [reg_cg r e187]; exact l2)
          omega
      · refine ⟨by decide, ?_⟩
        rw [if_pos rfl]
        refine ⟨h1.2, ?_⟩
        exact @act_content (fpT (σ 186 5)) (PolT (fpT (σ 186 5)) (FpF b1).toCommRing) (PolT (PolT (fpT (σ 186 5)) (FpF b1).toCommRing) (polR (FpF b1).toCommRing)) (FpF b1) (polR (FpF b1).toCommRing) (polR (polR (FpF b1).toCommRing)) _ _ _ (pol_ok (FpF b1).toCommRing) _ _ _ (pol_ok (polR (FpF b1).toCommRing)) (σ 186 5) (fpm (pr_pos b1)) (isEm_fp b1) B σ r k hC hR rfl h1.1 h1.2.1 h1.2.2 h2.2.1 h2.2.2 h3
    · rw [if_neg h2]
      exact bad (Or.inr ⟨h1, h2⟩)
  · rw [if_neg h1]
    exact bad (Or.inl h1)
theorem pair_primitive {B : va_E} {r k : Int} (hr : rg r) (hk : rg k) : PAIR comF B 138 270 [vi r, vi k] := by
  intro σ hC hR
  have B5 := hC.1.2.2.2.2.1
  have h01 := hR.1
  have bad : ¬ (σ 186 14 = 1 ∧ 0 ≤ r ∧ r < 8) ∨ ((σ 186 14 = 1 ∧ 0 ≤ r ∧ r < 8) ∧ ¬ (σ 186 14 = 1 ∧ 0 ≤ k ∧ k < 8)) → ∀ τ, τ = trb σ 1 → wC B 270 [vr 186, vi r, vi k] τ (fun y υ => -1 = y ∧ CI comF υ υ ∧ RWF υ) := by
    intro hb τ et
    refine o270 ?_
    unfold w270
    intro υ eu
    rw [via et eu (b := 186) (j := 14) (by decide) (by decide)]
    refine ⟨⟨hr, h01⟩, ?_⟩
    rcases hb with hb | ⟨ha, hb⟩
    · rw [if_neg hb]
      intro ω ew
      exact ⟨rfl, pair_e hC hR (by decide) et eu ew⟩
    · rw [if_pos ha]
      refine ⟨hk, ?_⟩
      rw [if_neg hb]
      intro ω ew
      exact ⟨rfl, pair_e hC hR (by decide) et eu ew⟩
  refine o138 ?_
  unfold w138
  rw [B5]
  refine ⟨⟨hr, h01⟩, ?_⟩
  by_cases h1 : σ 186 14 = 1 ∧ 0 ≤ r ∧ r < 8
  · rw [if_pos h1]
    refine ⟨hk, ?_⟩
    by_cases h2 : σ 186 14 = 1 ∧ 0 ≤ k ∧ k < 8
    · rw [if_pos h2]
      obtain ⟨b1, b2, b3, b4, b5, b6⟩ := hR.2.2.2.2.2.2.2.2.2 h1.1
      obtain ⟨D1, D2, D3, D4, D5, D6, D7, D8⟩ := hC.2.1 h1.1
      obtain ⟨p2, p97, -⟩ := pr_rest _ b1
      refine ⟨h1.2, ?_⟩
      refine c89 (isP_reg h1.2.1 h1.2.2) (wt_ok _ _ _) (D8 r h1.2.1 h1.2.2) (by decide) (by decide) (fun h3 => ?_) (fun h3 => ?_)
      · refine ⟨by decide, ?_⟩
        rw [if_neg (by decide)]
        intro τ et
        refine o270 ?_
        unfold w270
        intro υ eu
        have e187 : ∀ j, υ 187 j = σ 187 j := fun j => via et eu (by decide) (fun w => by omega)
        rw [via et eu (b := 186) (j := 14) (by decide) (by decide)]
        refine ⟨⟨hr, h01⟩, ?_⟩
        rw [if_pos h1]
        refine ⟨hk, ?_⟩
        rw [if_pos h2]
        refine r267 p97 h1.2.1 h1.2.2 (rng_cg b3 e187) (fun _ => ?_) (fun w => ?_)
        · refine ⟨by decide, ?_⟩
          rw [if_neg (by decide)]
          intro ω ew
          exact ⟨rfl, pair_e hC hR (by decide) et eu ew⟩
        · obtain ⟨l, l0, l1, l2, l3⟩ := h3
          have := w l l0 l1 (by rw [reg_cg r e187]; exact l2)
          omega
      · refine ⟨by decide, ?_⟩
        rw [if_pos rfl]
        refine ⟨h1.2, ?_⟩
        exact @act_primitive (fpT (σ 186 5)) (PolT (fpT (σ 186 5)) (FpF b1).toCommRing) (PolT (PolT (fpT (σ 186 5)) (FpF b1).toCommRing) (polR (FpF b1).toCommRing)) (FpF b1) (polR (FpF b1).toCommRing) (polR (polR (FpF b1).toCommRing)) _ _ _ (pol_ok (FpF b1).toCommRing) _ _ _ (pol_ok (polR (FpF b1).toCommRing)) (σ 186 5) (fpm (pr_pos b1)) (isEm_fp b1) B σ r k hC hR rfl h1.1 h1.2.1 h1.2.2 h2.2.1 h2.2.2 h3
    · rw [if_neg h2]
      exact bad (Or.inr ⟨h1, h2⟩)
  · rw [if_neg h1]
    exact bad (Or.inl h1)
theorem pair_common {B : va_E} {r q k : Int} (hr : rg r) (hq : rg q) (hk : rg k) : PAIR comF B 136 268 [vi r, vi q, vi k] := by
  intro σ hC hR
  have B5 := hC.1.2.2.2.2.1
  have h01 := hR.1
  have bad : ¬ (σ 186 14 = 1 ∧ (0 ≤ r ∧ r < 8) ∧ (0 ≤ q ∧ q < 8) ∧ (0 ≤ k ∧ k < 8)) → ∀ τ, τ = trb σ 1 → wC B 268 [vr 186, vi r, vi q, vi k] τ (fun y υ => -1 = y ∧ CI comF υ υ ∧ RWF υ) := by
    intro hb τ et
    refine o268 ?_
    unfold w268
    intro υ eu
    rw [via et eu (b := 186) (j := 14) (by decide) (by decide)]
    refine ⟨⟨hr, hq, hk, h01⟩, ?_⟩
    rw [if_neg hb]
    intro ω ew
    exact ⟨rfl, pair_e hC hR (by decide) et eu ew⟩
  refine o136 ?_
  unfold w136
  rw [B5]
  refine ⟨⟨hr, h01⟩, ?_⟩
  by_cases h1 : σ 186 14 = 1 ∧ 0 ≤ r ∧ r < 8
  · rw [if_pos h1]
    refine ⟨hq, ?_⟩
    by_cases h2 : σ 186 14 = 1 ∧ 0 ≤ q ∧ q < 8
    · rw [if_pos h2]
      refine ⟨hk, ?_⟩
      by_cases h4 : σ 186 14 = 1 ∧ 0 ≤ k ∧ k < 8
      · rw [if_pos h4]
        obtain ⟨b1, b2, b3, b4, b5, b6⟩ := hR.2.2.2.2.2.2.2.2.2 h1.1
        obtain ⟨D1, D2, D3, D4, D5, D6, D7, D8⟩ := hC.2.1 h1.1
        obtain ⟨p2, p97, -⟩ := pr_rest _ b1
        have third : ((∃ l : Int, 0 ≤ l ∧ l < 4096 ∧ regR σ r l ≠ 0 ∧ 0 < e4 l 2) ∨ (∃ l : Int, 0 ≤ l ∧ l < 4096 ∧ regR σ q l ≠ 0 ∧ 0 < e4 l 2)) → ∀ τ, τ = trb σ 5 → wC B 268 [vr 186, vi r, vi q, vi k] τ (fun y υ => -1 = y ∧ CI comF υ υ ∧ RWF υ) := by
          intro h3 τ et
          refine o268 ?_
          unfold w268
          intro υ eu
          have e187 : ∀ j, υ 187 j = σ 187 j := fun j => via et eu (by decide) (fun w => by omega)
          rw [via et eu (b := 186) (j := 14) (by decide) (by decide)]
          refine ⟨⟨hr, hq, hk, h01⟩, ?_⟩
          rw [if_pos ⟨h1.1, h1.2, h2.2, h4.2⟩]
          refine r267 p97 h1.2.1 h1.2.2 (rng_cg b3 e187) (fun _ => ?_) (fun w => ?_)
          · refine ⟨by decide, ?_⟩
            rw [if_neg (by decide)]
            intro ω ew
            exact ⟨rfl, pair_e hC hR (by decide) et eu ew⟩
          · refine ⟨by decide, ?_⟩
            rw [if_pos rfl]
            refine r267 p97 h2.2.1 h2.2.2 (rng_cg b3 e187) (fun _ => ?_) (fun w' => ?_)
            · refine ⟨by decide, ?_⟩
              rw [if_neg (by decide)]
              intro ω ew
              exact ⟨rfl, pair_e hC hR (by decide) et eu ew⟩
            · rcases h3 with ⟨l, l0, l1, l2, l3⟩ | ⟨l, l0, l1, l2, l3⟩
              · have := w l l0 l1 (by rw [reg_cg r e187]; exact l2)
                omega
              · have := w' l l0 l1 (by rw [reg_cg q e187]; exact l2)
                omega
        refine ⟨h1.2, ?_⟩
        refine c89 (isP_reg h1.2.1 h1.2.2) (wt_ok _ _ _) (D8 r h1.2.1 h1.2.2) (by decide) (by decide) (fun h3 => ?_) (fun h3 => ?_)
        · refine ⟨by decide, ?_⟩
          rw [if_neg (by decide)]
          exact third (Or.inl h3)
        · refine ⟨by decide, ?_⟩
          rw [if_pos rfl]
          refine ⟨h2.2, ?_⟩
          refine c89 (isP_reg h2.2.1 h2.2.2) (wt_ok _ _ _) (D8 q h2.2.1 h2.2.2) (by decide) (by decide) (fun h5 => ?_) (fun h5 => ?_)
          · refine ⟨by decide, ?_⟩
            rw [if_neg (by decide)]
            exact third (Or.inr h5)
          · refine ⟨by decide, ?_⟩
            rw [if_pos rfl]
            refine ⟨⟨h1.2.1, h1.2.2, h2.2.1, h2.2.2⟩, ?_⟩
            exact @act_common (fpT (σ 186 5)) (gE (σ 186 5)) (PolT (fpT (σ 186 5)) (FpF b1).toCommRing) (PolT (gE (σ 186 5)) (gFd b1).toCommRing) (PolT (PolT (fpT (σ 186 5)) (FpF b1).toCommRing) (polR (FpF b1).toCommRing)) (PolT (gE (σ 186 5)) (gFd b1).toCommRing) (FpF b1) (gFd b1) (polR (FpF b1).toCommRing) (polR (gFd b1).toCommRing) (polR (polR (FpF b1).toCommRing)) (polR (gFd b1).toCommRing) _ _ _ (pol_ok (FpF b1).toCommRing) _ _ _ (pol_ok (polR (FpF b1).toCommRing)) _ _ _ (pol_ok (gFd b1).toCommRing) _ _ _ (pol_ok (gFd b1).toCommRing) (σ 186 5) (fpm (pr_pos b1)) (isEm_fp b1) (gph (pr_pos b1)) (cod b1) B σ r q k b1 (fun τ hF => isFi_fp b1 hF) hC hR rfl h1.1 h1.2.1 h1.2.2 h2.2.1 h2.2.2 h4.2.1 h4.2.2 h3 h5
      · rw [if_neg h4]
        exact bad (fun w => h4 ⟨w.1, w.2.2.2⟩)
    · rw [if_neg h2]
      exact bad (fun w => h2 ⟨w.1, w.2.2.1⟩)
  · rw [if_neg h1]
    exact bad (fun w => h1 ⟨w.1, w.2.1⟩)
