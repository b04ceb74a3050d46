/-! ===== pairs: add, less, ahead ===== -/
theorem pair_add {F : l2_m → Prop} {B : va_E} {r s k : Int} (hr : rg r) (hs : rg s) (hk : rg k) : PAIR F B 125 242 [vi r, vi s, vi k] := by
  intro σ hC hR
  have B5 := hC.1.2.2.2.2.1
  have h01 := hR.1
  have bad : ¬ (σ 186 14 = 1 ∧ (0 ≤ r ∧ r < 8) ∧ (0 ≤ s ∧ s < 8) ∧ (0 ≤ k ∧ k < 8)) → ∀ τ, τ = trb σ 1 → wC B 242 [vr 186, vi r, vi s, vi k] τ (fun y υ => -1 = y ∧ CI F υ υ ∧ RWF υ) := by
    intro hb τ et
    refine o242 ?_
    unfold w242
    intro υ eu
    rw [via et eu (b := 186) (j := 14) (by decide) (by decide)]
    refine ⟨⟨hr, hs, hk, h01⟩, ?_⟩
    rw [if_neg hb]
    intro ω ew
    exact ⟨rfl, pair_e hC hR (by decide) et eu ew⟩
  refine o125 ?_
  unfold w125
  rw [B5]
  refine ⟨⟨hr, h01⟩, ?_⟩
  by_cases h1 : σ 186 14 = 1 ∧ 0 ≤ r ∧ r < 8
  · rw [if_pos h1]
    refine ⟨hs, ?_⟩
    by_cases h2 : σ 186 14 = 1 ∧ 0 ≤ s ∧ s < 8
    · rw [if_pos h2]
      refine ⟨hk, ?_⟩
      by_cases h3 : σ 186 14 = 1 ∧ 0 ≤ k ∧ k < 8
      · rw [if_pos h3]
        refine ⟨⟨h1.2.1, h1.2.2, h2.2.1, h2.2.2⟩, ?_⟩
        refine mix_core (cf := fun _ => 1) hC hR h1.1 h1.2 h2.2 h3.2 (by decide) (by decide) (fun _ _ => rfl) ?_
        intro τ Q hQ
        refine o242 ?_
        unfold w242
        intro υ eu
        obtain ⟨q1, q2⟩ := hQ υ eu
        rw [q1]
        refine ⟨⟨hr, hs, hk, Or.inr rfl⟩, ?_⟩
        rw [if_pos ⟨rfl, h1.2, h2.2, h3.2⟩]
        exact q2
      · rw [if_neg h3]
        exact bad (fun w => h3 ⟨w.1, w.2.2.2⟩)
    · rw [if_neg h2]
      exact bad (fun w => h2 ⟨w.1, w.2.2.1⟩)
  · rw [if_neg h1]
    exact bad (fun w => h1 ⟨w.1, w.2.1⟩)
theorem pair_less {F : l2_m → Prop} {B : va_E} {r s k : Int} (hr : rg r) (hs : rg s) (hk : rg k) : PAIR F B 126 243 [vi r, vi s, vi k] := by
  intro σ hC hR
  have B5 := hC.1.2.2.2.2.1
  have h01 := hR.1
  have bad : ¬ (σ 186 14 = 1 ∧ (0 ≤ r ∧ r < 8) ∧ (0 ≤ s ∧ s < 8) ∧ (0 ≤ k ∧ k < 8)) → ∀ τ, τ = trb σ 1 → wC B 243 [vr 186, vi r, vi s, vi k] τ (fun y υ => -1 = y ∧ CI F υ υ ∧ RWF υ) := by
    intro hb τ et
    refine o243 ?_
    unfold w243
    intro υ eu
    rw [via et eu (b := 186) (j := 14) (by decide) (by decide)]
    refine ⟨⟨hr, hs, hk, h01⟩, ?_⟩
    rw [if_neg hb]
    intro ω ew
    exact ⟨rfl, pair_e hC hR (by decide) et eu ew⟩
  refine o126 ?_
  unfold w126
  rw [B5]
  refine ⟨⟨hr, h01⟩, ?_⟩
  by_cases h1 : σ 186 14 = 1 ∧ 0 ≤ r ∧ r < 8
  · rw [if_pos h1]
    refine ⟨hs, ?_⟩
    by_cases h2 : σ 186 14 = 1 ∧ 0 ≤ s ∧ s < 8
    · rw [if_pos h2]
      refine ⟨hk, ?_⟩
      by_cases h3 : σ 186 14 = 1 ∧ 0 ≤ k ∧ k < 8
      · rw [if_pos h3]
        intro c ec
        obtain ⟨b1, -⟩ := hR.2.2.2.2.2.2.2.2.2 h1.1
        obtain ⟨D1, -⟩ := hC.2.1 h1.1
        obtain ⟨p2, p97, -⟩ := pr_rest _ b1
        rw [D1] at ec
        refine ⟨⟨h1.2.1, h1.2.2, h2.2.1, h2.2.2⟩, ?_⟩
        refine mix_core (cf := fun t => t 186 5 - 1) hC hR h1.1 h1.2 h2.2 h3.2 (by omega) (by omega) (fun t e => by show t 186 5 - 1 = c; rw [e, ec]) ?_
        intro τ Q hQ
        refine o243 ?_
        unfold w243
        intro υ eu
        obtain ⟨q1, q2⟩ := hQ υ eu
        rw [q1]
        refine ⟨⟨hr, hs, hk, Or.inr rfl⟩, ?_⟩
        rw [if_pos ⟨rfl, h1.2, h2.2, h3.2⟩]
        exact q2
      · rw [if_neg h3]
        exact bad (fun w => h3 ⟨w.1, w.2.2.2⟩)
    · rw [if_neg h2]
      exact bad (fun w => h2 ⟨w.1, w.2.2.1⟩)
  · rw [if_neg h1]
    exact bad (fun w => h1 ⟨w.1, w.2.1⟩)
