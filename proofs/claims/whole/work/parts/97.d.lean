/-! ===== put, times ===== -/
theorem r248l {B : va_E} {υ2 : l2_m} {Q : Int → l2_m → Prop} {p r u c k : Int} {f : Int → Int} (hp : υ2 186 5 = p) (p2 : 2 ≤ p) (p97 : p ≤ 97) (r0 : 0 ≤ r) (r1 : r < 8) (u0 : 0 ≤ u) (u1 : u < 3) (c0 : 0 ≤ c) (cc1 : c < p) (hf : ∀ j : Int, 0 ≤ j → j < 4096 → υ2 187 (4096 * r + j) = f j ∧ 0 ≤ f j ∧ f j < p) (hz : ∀ j : Int, 0 ≤ j → j < 4096 → υ2 192 j = 0) (h : ∀ s : l2_m, (∀ b j, b ≠ 192 → s b j = υ2 b j) → (∀ j : Int, 0 ≤ j → j < 4096 → s 192 j = putF p f u c j) → wC B 240 [vr 186, vi k] s Q) : w248_56 B υ2 r u c k 0 Q := by
  have e2 : (2 : Int) ^ (Int.toNat (4 * u)) = pu u := by rw [← pu_pow u0 u1, Int.one_mul]
  unfold w248_56
  refine lz2_inv (fun (i : Int) s => 0 ≤ i ∧ i ≤ 4096 ∧ (∀ b j, b ≠ 192 → s b j = υ2 b j) ∧ (∀ j : Int, 0 ≤ j → j < 4096 → s 192 j = sumN (fun l => if clr u l = j then f l * pw p c (e4 l u) % p else 0) i.toNat % p)) (fun i _ => 4096 - i) ?_ ⟨by decide, by decide, fun _ _ _ => rfl, fun j j0 j1 => by rw [hz j j0 j1]; exact (Int.zero_emod p).symm⟩
  intro X i s hX ⟨i0, i1, s1, s2⟩
  refine ⟨⟨by omega, by omega⟩, ?_⟩
  by_cases hi : i < 4096
  · rw [if_pos hi]
    refine ⟨⟨u0, u1⟩, ?_⟩
    intro x ex
    subst x
    refine ⟨⟨by omega, by omega⟩, ?_⟩
    intro y ey
    rw [e2] at ey
    have ey' : y = clr u i := ey
    obtain ⟨q0, q1, -⟩ := clr_e u0 u1 i0 hi
    rw [← ey'] at q0 q1
    obtain ⟨f1, f2, f3⟩ := hf i i0 hi
    have eb := e4_b i u
    have hpw := pw_b (p := p) (v := c) p2 (e4 i u)
    have m0 : 0 ≤ f i * pw p c (e4 i u) := Int.mul_nonneg f2 hpw.1
    have m1 : f i * pw p c (e4 i u) ≤ 97 * 97 := Int.mul_le_mul (by omega) (by omega) hpw.1 (by omega)
    have w0 : 0 ≤ s 192 y ∧ s 192 y < p := by rw [s2 y q0 q1]; exact ⟨Int.emod_nonneg _ (by omega), Int.emod_lt_of_pos _ (by omega)⟩
    rw [s1 187 _ (by decide), f1, s1 186 5 (by decide), hp]
    refine ⟨⟨q0, q1, r0, r1, i0, hi, p2, p97, c0, cc1, by omega, by omega, ⟨by omega, by omega⟩, ⟨by omega, by omega⟩, by omega, by omega⟩, ?_⟩
    intro s' es
    refine hX (i + 1) s' ⟨by omega, by omega, fun b j z => by rw [es, l2_u_ne z]; exact s1 b j z, fun j j0 j1 => ?_⟩ (by omega)
    rw [sumN_step i0]
    by_cases hj : j = y
    · subst hj
      rw [es]
      unfold l2_u
      rw [if_pos ⟨rfl, rfl⟩, s2 j j0 j1, if_pos ey'.symm, Int.emod_add_emod, Int.add_emod_emod]
    · rw [es, l2_u_nj hj, s2 j j0 j1, if_neg (fun w => hj (by rw [ey']; exact w.symm)), Int.add_zero]
  · rw [if_neg hi]
    have h8 : i = 4096 := by omega
    rw [h8] at s2
    exact h s s1 s2
theorem pair_put {F : l2_m → Prop} {B : va_E} {r u c k : Int} (hr : rg r) (hu : rg u) (hc : rg c) (hk : rg k) : PAIR F B 131 248 [vi r, vi u, vi c, vi k] := by
  intro σ hC hR
  have B5 := hC.1.2.2.2.2.1
  have h01 := hR.1
  have bad : ¬ ((σ 186 14 = 1 ∧ 0 ≤ r ∧ r < 8) ∧ (0 ≤ u ∧ u < 3) ∧ (σ 186 14 = 1 ∧ 0 ≤ k ∧ k < 8)) → ∀ τ, τ = trb σ 1 → wC B 248 [vr 186, vi r, vi u, vi c, vi k] τ (fun y υ => -1 = y ∧ CI F υ υ ∧ RWF υ) := by
    intro hb τ et
    refine o248 ?_
    unfold w248
    intro υ eu
    rw [via et eu (b := 186) (j := 14) (by decide) (by decide)]
    have fin : ∀ ω, ω = trr υ 1 → -1 = (-1 : Int) ∧ CI F ω ω ∧ RWF ω := fun ω ew => ⟨rfl, pair_e hC hR (by decide) et eu ew⟩
    refine ⟨⟨hr, h01⟩, ?_⟩
    by_cases h1 : σ 186 14 = 1 ∧ 0 ≤ r ∧ r < 8
    · rw [if_pos h1]
      refine ⟨hu, ?_⟩
      by_cases h2 : 0 ≤ u ∧ u < 3
      · rw [if_pos h2]
        refine ⟨hk, ?_⟩
        rw [if_neg (fun h3 => hb ⟨h1, h2, h3⟩)]
        exact fin
      · rw [if_neg h2]; exact fin
    · rw [if_neg h1]; exact fin
  refine o131 ?_
  unfold w131
  rw [B5]
  refine ⟨⟨hr, h01⟩, ?_⟩
  by_cases h1 : σ 186 14 = 1 ∧ 0 ≤ r ∧ r < 8
  · rw [if_pos h1]
    refine ⟨hu, ?_⟩
    by_cases h2 : 0 ≤ u ∧ u < 3
    · rw [if_pos h2]
      refine ⟨hk, ?_⟩
      by_cases h3 : σ 186 14 = 1 ∧ 0 ≤ k ∧ k < 8
      · rw [if_pos h3]
        obtain ⟨b1, b2, b3, b4, b5, b6⟩ := hR.2.2.2.2.2.2.2.2.2 h1.1
        obtain ⟨D1, D2, D3, D4, D5, D6, D7, D8⟩ := hC.2.1 h1.1
        obtain ⟨p2, p97, -⟩ := pr_rest _ b1
        rw [D1]
        refine ⟨⟨⟨by omega, by omega⟩, hc⟩, ?_⟩
        by_cases h4 : 0 ≤ c ∧ c < σ 186 5
        · rw [if_pos h4]
          refine ⟨h1.2, ?_⟩
          have hA : RefAct B σ 248 [vr 186, vi r, vi u, vi c, vi k] k (fun s => s 186 29 = 1 ∧ ∀ j : Int, 0 ≤ j → j < 4096 → s 192 j = putF (σ 186 5) (regR σ r) u c j) := by
            intro τ Q kt hQ
            refine o248 ?_
            unfold w248
            intro υ eu
            have a : ∀ j : Int, j ≠ 0 → υ 186 j = σ 186 j := fun j hj => by rw [eu, l2_u_nj hj]; exact kt 186 j (by decide)
            rw [a 14 (by decide), a 5 (by decide)]
            refine ⟨⟨hr, h01⟩, ?_⟩
            rw [if_pos h1]
            refine ⟨hu, ?_⟩
            rw [if_pos h2]
            refine ⟨hk, ?_⟩
            rw [if_pos h3]
            refine ⟨⟨hc, by omega, p97⟩, ?_⟩
            rw [if_pos h4]
            intro υ2 eu2
            obtain ⟨u1, u2, u3⟩ := clr_at eu eu2
            refine r248l (p := σ 186 5) (f := regR σ r) (by rw [u1 186 5 (by decide) (by omega)]; exact kt 186 5 (by decide)) p2 p97 h1.2.1 h1.2.2 h2.1 h2.2 h4.1 h4.2 (fun j j0 j1 => ⟨by rw [u1 187 _ (by decide) (by omega)]; exact kt 187 _ (by decide), b3 r j h1.2.1 h1.2.2 j0 j1⟩) u2 ?_
            intro s s1 s2
            exact hQ s (fun b j z w => by rw [s1 b j z]; exact u1 b j z w) ⟨by rw [s1 186 29 (by decide)]; exact u3, s2⟩
          refine c6 (p := σ 186 5) (isP_reg h1.2.1 h1.2.2) (show isPb 159 = true from rfl) (by omega) (wt_ok _ _ _) D1 p2 p97 D7 h2.1 h2.2 h4.1 h4.2 (D8 r h1.2.1 h1.2.2) (fun j j0 j1 => b3 r j h1.2.1 h1.2.2 j0 j1) ?_
          intro σ1 t1 t2
          exact act_yes hC hR h1.1 h3.2 (fun b j _ q1 q2 q3 => t1 b j q1 q2 q3) t2 (fun j _ _ => ⟨Int.emod_nonneg _ (by omega), Int.emod_lt_of_pos _ (by omega)⟩) hA (fun s g => g)
        · rw [if_neg h4]
          intro τ et
          refine o248 ?_
          unfold w248
          intro υ eu
          rw [via et eu (b := 186) (j := 14) (by decide) (by decide), via et eu (b := 186) (j := 5) (by decide) (by decide)]
          refine ⟨⟨hr, h01⟩, ?_⟩
          rw [if_pos h1]
          refine ⟨hu, ?_⟩
          rw [if_pos h2]
          refine ⟨hk, ?_⟩
          rw [if_pos h3]
          refine ⟨⟨hc, by omega, p97⟩, ?_⟩
          rw [if_neg h4]
          intro ω ew
          exact ⟨rfl, pair_e hC hR (by decide) et eu ew⟩
      · rw [if_neg h3]
        exact bad (fun w => h3 w.2.2)
    · rw [if_neg h2]
      exact bad (fun w => h2 w.2.1)
  · rw [if_neg h1]
    exact bad (fun w => h1 w.1)
