/-! ===== monic ===== -/
theorem pair_monic {F : l2_m → Prop} {B : va_E} {r k : Int} (hr : rg r) (hk : rg k) : PAIR F B 129 246 [vi r, vi k] := by
  intro σ hC hR
  have B5 := hC.1.2.2.2.2.1
  have h01 := hR.1
  refine o129 ?_
  unfold w129
  rw [B5]
  refine ⟨⟨hr, h01⟩, ?_⟩
  by_cases h1 : σ 186 14 = 1 ∧ 0 ≤ r ∧ r < 8
  · rw [if_pos h1]
    refine ⟨hk, ?_⟩
    by_cases h2 : σ 186 14 = 1 ∧ 0 ≤ k ∧ k < 8
    · rw [if_pos h2]
      obtain ⟨b1, b2, b3, b4, b5, b6⟩ := hR.2.2.2.2.2.2.2.2.2 h1.1
      obtain ⟨D1, D2, D3, D4, D5, D6, D7, D8⟩ := hC.2.1 h1.1
      obtain ⟨p2, p97, -⟩ := pr_rest _ b1
      have hf := D8 r h1.2.1 h1.2.2
      refine ⟨⟨h1.2.1, h1.2.2, by omega, hf.1, hf.2.1⟩, ?_⟩
      intro σ2 e2
      obtain ⟨q1, q2⟩ := PR_cpP (o := 159) hf
      rw [← e2] at q1 q2
      have iv2 : invOK σ2 34 (σ 186 5) := fun x x0 x1 => by
        show 0 < σ2 35 x ∧ σ2 35 x < _ ∧ x * σ2 35 x % _ = 1
        rw [q2 35 x (by decide) (by decide) (by decide)]; exact D2 x x0 x1
      have n2 := PR_cnt q1
      have hmod : ∀ v : Int, 0 ≤ v % σ 186 5 ∧ v % σ 186 5 < σ 186 5 := fun v => ⟨Int.emod_nonneg _ (by omega), Int.emod_lt_of_pos _ (by omega)⟩
      refine c4 (p := σ 186 5) (show isPb 159 = true from rfl) (by rw [q2 34 0 (by decide) (by decide) (by decide)]; exact D1) p2 p97 iv2 q1 (fun j j0 j1 => b3 r j h1.2.1 h1.2.2 j0 j1) ?_
      intro σ3 t1 t2 t3
      have fr : ∀ b j, b ≠ 44 → b ≠ 159 → b ≠ 160 → b ≠ 161 → σ3 b j = σ b j := fun b j _ z1 z2 z3 => by rw [t1 b j z2 z3]; exact q2 b j z1 z2 z3
      have start : ∀ (τ : l2_m) (Q : Int → l2_m → Prop), (∀ b j, 186 ≤ b → τ b j = σ b j) → (∀ υ2 : l2_m, (∀ b j, b ≠ 192 → ¬ (b = 186 ∧ (j = 29 ∨ j = 0)) → υ2 b j = τ b j) → (∀ j : Int, 0 ≤ j → j < 4096 → υ2 192 j = 0) → υ2 186 29 = 1 → (if cnt (regR σ r) 4096 = 0 then w246_59 B υ2 k Q else (wC B 204 [vr 186, vi r] υ2 (fun y σ'''' => ((0 ≤ r ∧ r < 8 ∧ 0 ≤ y ∧ y < 4096) ∧ (wC B 226 [vr 186, vi (σ'''' 187 (4096 * r + y))] σ'''' (fun y' σ''''' => (wC B 224 [vr 186, vi r, vi y', vi 0] σ''''' (fun _ σ'''''' => w246_59 B σ'''''' k Q))))))))) → wC B 246 [vr 186, vi r, vi k] τ Q := by
        intro τ Q kt hQ
        refine o246 ?_
        unfold w246
        intro υ eu
        have a : ∀ j : Int, j ≠ 0 → υ 186 j = σ 186 j := fun j hj => by rw [eu, l2_u_nj hj]; exact kt 186 j (by decide)
        rw [a 14 (by decide)]
        refine ⟨⟨hr, h01⟩, ?_⟩
        rw [if_pos h1]
        refine ⟨hk, ?_⟩
        rw [if_pos h2]
        intro υ2 eu2
        obtain ⟨u1, u2, u3⟩ := clr_at eu eu2
        have e187 : ∀ q j : Int, υ2 187 (4096 * q + j) = σ 187 (4096 * q + j) := fun q j => by rw [u1 187 _ (by decide) (by omega)]; exact kt 187 _ (by decide)
        have er : (fun j => υ2 187 (4096 * r + j)) = regR σ r := funext (fun j => e187 r j)
        refine ⟨⟨h1.2.1, h1.2.2, fun j j0 j1 => by rw [e187]; have := b3 r j h1.2.1 h1.2.2 j0 j1; exact ⟨by omega, by omega⟩⟩, ?_⟩
        rw [er]
        exact hQ υ2 u1 u2 u3
      by_cases hz : cnt (regR σ r) 4096 = 0
      · have hA : RefAct B σ 246 [vr 186, vi r, vi k] k (fun s => s 186 29 = 1 ∧ ∀ j : Int, 0 ≤ j → j < 4096 → s 192 j = regR σ r j) := by
          intro τ Q kt hQ
          refine start τ Q kt ?_
          intro υ2 u1 u2 u3
          rw [if_pos hz]
          unfold w246_59
          exact hQ υ2 u1 ⟨u3, fun j j0 j1 => by rw [u2 j j0 j1, cnt_zero hz j0 j1]⟩
        exact act_yes hC hR h1.1 h2.2 fr (t2 (by rw [← n2]; exact hz)) (fun j j0 j1 => b3 r j h1.2.1 h1.2.2 j0 j1) hA (fun s g => g)
      · have np : 0 < σ2 159 2 := by have := q1.1; omega
        obtain ⟨l, l0, l1, l2, l3, l4, l5⟩ := PR_lead q1 np
        have lr := b3 r l h1.2.1 h1.2.2 l0 l1
        have lp : 0 < regR σ r l := by
          have : regR σ r l ≠ 0 := l4
          have h0 : 0 ≤ regR σ r l := lr.1
          omega
        have lq : regR σ r l < σ 186 5 := lr.2
        have ec : σ2 35 (σ2 (159 + 2) 0) = ivp (σ 186 5) (regR σ r l) := by rw [l3]; exact invOK_ivp iv2 lp lq
        have hP := t3 _ np rfl
        rw [ec] at hP
        obtain ⟨i0, i1, -⟩ := ivp_ok b1 lp lq
        have hP' : PR σ3 159 (ordA σ) (sclF (σ 186 5) (ivp (σ 186 5) (regR σ r l)) 0 (regR σ r)) := PR_ext hP (fun j j0 j1 => by
          show ivp (σ 186 5) (regR σ r l) * shf 0 (regR σ r) j % σ 186 5 = regR σ r j * ivp (σ 186 5) (regR σ r l) % σ 186 5
          rw [shf_0, Int.mul_comm])
        have hA : RefAct B σ 246 [vr 186, vi r, vi k] k (GS (σ 186 5) (ivp (σ 186 5) (regR σ r l)) 0 (regR σ r)) := by
          intro τ Q kt hQ
          refine start τ Q kt ?_
          intro υ2 u1 u2 u3
          rw [if_neg hz]
          have e187 : ∀ q j : Int, υ2 187 (4096 * q + j) = σ 187 (4096 * q + j) := fun q j => by rw [u1 187 _ (by decide) (by omega)]; exact kt 187 _ (by decide)
          have e190 : ∀ j : Int, υ2 190 j = σ 190 j := fun j => by rw [u1 190 _ (by decide) (by omega)]; exact kt 190 _ (by decide)
          have er : regR υ2 r = regR σ r := funext (fun j => e187 r j)
          refine r204 (W := ordA σ) (p := σ 186 5) h1.2.1 h1.2.2 p97 (fun q j q0 q1 j0 j1 => by rw [e187]; exact b3 q j q0 q1 j0 j1) ⟨fun i x0 x1 => by rw [e190]; exact b5.1 i x0 x1, fun i j x0 x1 x2 => by rw [e190, e190]; exact b5.2.1 i j x0 x1 x2, fun j x0 x1 => by obtain ⟨i, y0, y1, y2⟩ := b5.2.2 j x0 x1; exact ⟨i, y0, y1, by rw [e190]; exact y2⟩⟩ (fun m hm => ?_) (fun hm => ?_)
          · rw [er] at hm
            have em : m = l := isLead_uniq hm ⟨l0, l1, l4, l5⟩
            subst em
            refine ⟨⟨h1.2.1, h1.2.2, l0, l1⟩, ?_⟩
            have e1 : υ2 187 (4096 * r + m) = regR σ r m := e187 r m
            rw [e1]
            refine r226 (p := σ 186 5) (by rw [u1 186 5 (by decide) (by omega)]; exact kt 186 5 (by decide)) b1 lp lq ?_
            refine put1 kt rfl p2 p97 b3 h1.2.1 h1.2.2 (by omega) (by omega) (by decide) (by decide) u1 u2 u3 ?_
            intro s v1 v2
            unfold w246_59
            exact hQ s v1 v2
          · rw [er] at hm
            exact absurd (hm l l0 l1) l4
        exact act_yes hC hR h1.1 h2.2 fr hP' (fun j _ _ => hmod _) hA (fun s g => ⟨g.2.1 (Or.inr (fun j _ _ _ => noO_0 j)), g.1⟩)
    · rw [if_neg h2]
      intro τ et
      refine o246 ?_
      unfold w246
      intro υ eu
      rw [via et eu (b := 186) (j := 14) (by decide) (by decide)]
      refine ⟨⟨hr, h01⟩, ?_⟩
      rw [if_pos h1]
      refine ⟨hk, ?_⟩
      rw [if_neg h2]
      intro ω ew
      exact ⟨rfl, pair_e hC hR (by decide) et eu ew⟩
  · rw [if_neg h1]
    intro τ et
    refine o246 ?_
    unfold w246
    intro υ eu
    rw [via et eu (b := 186) (j := 14) (by decide) (by decide)]
    refine ⟨⟨hr, h01⟩, ?_⟩
    rw [if_neg h1]
    intro ω ew
    exact ⟨rfl, pair_e hC hR (by decide) et eu ew⟩
