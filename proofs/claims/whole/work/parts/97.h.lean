/-! ===== leadBy ===== -/
def ldI (W f : Int → Int) (i x : Int) : Prop := (x = -1 ∧ ∀ l : Int, 0 ≤ l → l < i → f l = 0) ∨ (0 ≤ x ∧ x < 4096 ∧ f x ≠ 0 ∧ ∀ l : Int, 0 ≤ l → l < i → f l ≠ 0 → MW W l ≤ MW W x)
theorem ldI_b {W f : Int → Int} {i x : Int} (h : ldI W f i x) : -1 ≤ x ∧ x < 4096 := by
  rcases h with ⟨h, -⟩ | ⟨h1, h2, -⟩ <;> omega
theorem r221l {B : va_E} {υ : l2_m} {Q : Int → l2_m → Prop} {r x y z : Int} {f : Int → Int} (r0 : 0 ≤ r) (r1 : r < 8) (hO : isOr x y z) (hf : ∀ j : Int, 0 ≤ j → j < 4096 → υ 187 (4096 * r + j) = f j ∧ 0 ≤ f j ∧ f j < 97) (h : ∀ k : Int, ldI (wt x y z) f 4096 k → ∀ ω, ω = trr υ 0 → Q (if k = -1 then -2 else k) ω) : w221_41 B υ r x y z (-1) 0 Q := by
  unfold w221_41
  refine lz3_inv (fun (k : Int) (i : Int) s => s = υ ∧ 0 ≤ i ∧ i ≤ 4096 ∧ ldI (wt x y z) f i k) (fun _ i _ => 4096 - i) ?_ ⟨rfl, by decide, by decide, Or.inl ⟨rfl, fun l l0 l1 => by omega⟩⟩
  intro X k i s hX ⟨es, i0, i1, hk⟩
  subst es
  refine ⟨⟨by omega, by omega⟩, ?_⟩
  have kb := ldI_b hk
  by_cases hi : i < 4096
  · rw [if_pos hi]
    obtain ⟨f1, f2, f3⟩ := hf i i0 hi
    rw [f1]
    refine ⟨⟨r0, r1, i0, hi, ⟨by omega, by omega⟩⟩, ?_⟩
    by_cases hz : f i = 0
    · rw [if_pos hz]
      refine hX k (i + 1) s ⟨rfl, by omega, by omega, ?_⟩ (by omega)
      rcases hk with ⟨k1, k2⟩ | ⟨k1, k2, k3, k4⟩
      · refine Or.inl ⟨k1, fun l l0 l1 => ?_⟩
        by_cases hl : l = i
        · rw [hl]; exact hz
        · exact k2 l l0 (by omega)
      · refine Or.inr ⟨k1, k2, k3, fun l l0 l1 l2 => ?_⟩
        by_cases hl : l = i
        · rw [hl] at l2; exact absurd hz l2
        · exact k4 l l0 (by omega) l2
    · rw [if_neg hz]
      refine ⟨⟨by omega, by omega⟩, ?_⟩
      by_cases hm : k = -1
      · rw [if_pos hm]
        refine hX i (i + 1) s ⟨rfl, by omega, by omega, Or.inr ⟨i0, hi, hz, fun l l0 l1 l2 => ?_⟩⟩ (by omega)
        rcases hk with ⟨k1, k2⟩ | ⟨k1, -⟩
        · by_cases hl : l = i
          · rw [hl]; exact Int.le_refl _
          · exact absurd (k2 l l0 (by omega)) l2
        · omega
      · rw [if_neg hm]
        rcases hk with ⟨k1, k2⟩ | ⟨k1, k2, k3, k4⟩
        · exact absurd k1 hm
        refine r196 hO i0 hi k1 k2 ?_
        intro d hd d1 d2
        refine ⟨hd, ?_⟩
        by_cases e1 : 0 < d
        · rw [if_pos e1]
          have := d1.1 e1
          refine hX i (i + 1) s ⟨rfl, by omega, by omega, Or.inr ⟨i0, hi, hz, fun l l0 l1 l2 => ?_⟩⟩ (by omega)
          by_cases hl : l = i
          · rw [hl]; exact Int.le_refl _
          · have := k4 l l0 (by omega) l2
            omega
        · rw [if_neg e1]
          have n1 : ¬ MW (wt x y z) k < MW (wt x y z) i := fun q => e1 (d1.2 q)
          refine hX k (i + 1) s ⟨rfl, by omega, by omega, Or.inr ⟨k1, k2, k3, fun l l0 l1 l2 => ?_⟩⟩ (by omega)
          by_cases hl : l = i
          · rw [hl]; omega
          · exact k4 l l0 (by omega) l2
  · rw [if_neg hi]
    have h8 : i = 4096 := by omega
    rw [h8] at hk
    refine ⟨⟨by omega, by omega⟩, ?_⟩
    have hq := h k hk
    by_cases hm : k = -1
    · rw [if_pos hm]
      rw [if_pos hm] at hq
      exact hq
    · rw [if_neg hm]
      rw [if_neg hm] at hq
      exact hq
theorem pair_leadBy {F : l2_m → Prop} {B : va_E} {r x y z : Int} (hr : rg r) (hx : rg x) (hy : rg y) (hz : rg z) : PAIR F B 121 221 [vi r, vi x, vi y, vi z] := by
  intro σ hC hR
  have B5 := hC.1.2.2.2.2.1
  have hdo := hC.2.2.2.2.1
  have h01 := hR.1
  refine o121 ?_
  unfold w121
  rw [B5]
  refine ⟨⟨hr, h01⟩, ?_⟩
  by_cases h1 : σ 186 14 = 1 ∧ 0 ≤ r ∧ r < 8
  · rw [if_pos h1]
    refine ⟨⟨hx, hy, hz⟩, ?_⟩
    by_cases h2 : isOr x y z
    · rw [if_pos h2]
      obtain ⟨b1, b2, b3, b4, b5, b6⟩ := hR.2.2.2.2.2.2.2.2.2 h1.1
      obtain ⟨D1, D2, D3, D4, D5, D6, D7, D8⟩ := hC.2.1 h1.1
      obtain ⟨p2, p97, -⟩ := pr_rest _ b1
      have hf := D8 r h1.2.1 h1.2.2
      have n0 := hf.1
      have n1 := hf.2.1
      have ref : ∀ (a : Int) (σ' τ : l2_m), (∀ b j, b ≠ 39 → b ≠ 40 → σ' b j = σ b j) → τ = trb σ' 0 → (∀ k : Int, ldI (wt x y z) (regR σ r) 4096 k → a = if k = -1 then -2 else k) → wC B 221 [vr 186, vi r, vi x, vi y, vi z] τ (fun q υ => a = q ∧ CI F υ υ ∧ RWF υ) := by
        intro a σ' τ kp et ha
        refine o221 ?_
        unfold w221
        intro υ eu
        have e : ∀ b j, 186 ≤ b → ¬ (b = 186 ∧ j = 0) → υ b j = σ b j := fun b j q1 q2 => by rw [via et eu (by omega) (fun q w => q2 ⟨q, w⟩)]; exact kp b j (by omega) (by omega)
        rw [e 186 14 (by decide) (by omega)]
        refine ⟨⟨hr, h01⟩, ?_⟩
        rw [if_pos h1]
        refine ⟨⟨hx, hy, hz⟩, ?_⟩
        rw [if_pos h2]
        refine r221l (f := regR σ r) h1.2.1 h1.2.2 h2 (fun j j0 j1 => ?_) ?_
        · have := b3 r j h1.2.1 h1.2.2 j0 j1
          exact ⟨e 187 _ (by decide) (by omega), this.1, by unfold regR; omega⟩
        · intro k hk ω ew
          refine ⟨ha k hk, pair_g (σ' := σ') (υ' := υ) hC hR (by decide) (fun b j q => kp b j (by unfold cpt prs at q; omega) (by unfold cpt prs at q; omega)) ?_ et eu (fun _ _ _ => rfl) ew⟩
          unfold dvO
          rw [kp 74 3 (by decide) (by decide), kp 74 4 (by decide) (by decide)]
          exact hdo
      refine ⟨⟨h1.2.1, h1.2.2, ⟨by omega, by omega⟩⟩, ?_⟩
      by_cases hn : σ (162 + 3 * Int.toNat r) 2 = 0
      · rw [if_pos hn]
        intro τ et
        refine ref _ σ τ (fun _ _ _ _ => rfl) et (fun k hk => ?_)
        have hc := PR_cnt hf
        rw [hn] at hc
        rcases hk with ⟨k1, -⟩ | ⟨k1, k2, k3, -⟩
        · rw [if_pos k1]
        · exact absurd (cnt_zero hc k1 k2) k3
      · rw [if_neg hn]
        refine c11 (isP_reg h1.2.1 h1.2.2) (wt_ok _ _ _) h2 hf (by omega) ?_
        intro σ' k t1 k0 k1 k2 k3
        refine ⟨MW_rg (wt_ok _ _ _) k, ?_⟩
        intro τ et
        obtain ⟨m0, m1, m2⟩ := MW_e (wt x y z) k
        refine ref _ σ' τ t1 et (fun l hl => ?_)
        rcases hl with ⟨l1, l2⟩ | ⟨l0, l1, l2, l3⟩
        · exact absurd (l2 k k0 k1) k2
        · have q1 := l3 k k0 k1 k2
          have q2 := k3 l l0 l1 l2
          have ekl : l = k := MW_inj l0 l1 k0 k1 (Int.le_antisymm q2 q1)
          rw [if_neg (by omega), m0, m1, m2, ekl, e4_0, e4_1, e4_2]
          omega
    · rw [if_neg h2]
      intro τ et
      refine o221 ?_
      unfold w221
      intro υ eu
      rw [via et eu (b := 186) (j := 14) (by decide) (by decide)]
      refine ⟨⟨hr, h01⟩, ?_⟩
      rw [if_pos h1]
      refine ⟨⟨hx, hy, hz⟩, ?_⟩
      rw [if_neg h2]
      intro ω ew
      exact ⟨rfl, pair_e hC hR (by decide) et eu ew⟩
  · rw [if_neg h1]
    intro τ et
    refine o221 ?_
    unfold w221
    intro υ eu
    rw [via et eu (b := 186) (j := 14) (by decide) (by decide)]
    refine ⟨⟨hr, h01⟩, ?_⟩
    rw [if_neg h1]
    intro ω ew
    exact ⟨rfl, pair_e hC hR (by decide) et eu ew⟩
