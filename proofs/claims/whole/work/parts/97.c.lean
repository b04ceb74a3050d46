/-! ===== derive ===== -/
theorem pu_pow {u : Int} (u0 : 0 ≤ u) (u1 : u < 3) : (1 : Int) * 2 ^ (Int.toNat (4 * u)) = pu u := by
  have : u = 0 ∨ u = 1 ∨ u = 2 := by omega
  rcases this with h | h | h <;> rw [h] <;> decide
theorem e4_pu {u x : Int} (u0 : 0 ≤ u) (u1 : u < 3) (x0 : 0 ≤ x) (x1 : x < 4096) (h : 0 < e4 x u) : 0 ≤ x - pu u ∧ x - pu u < 4096 ∧ e4 (x - pu u) u = e4 x u - 1 := by
  have : u = 0 ∨ u = 1 ∨ u = 2 := by omega
  rcases this with z | z | z
  · subst z
    rw [e4_0] at h
    rw [e4_0, e4_0]
    unfold pu
    rw [if_pos rfl]
    omega
  · subst z
    rw [e4_1] at h
    rw [e4_1, e4_1]
    unfold pu
    rw [if_neg (by decide), if_pos rfl]
    omega
  · subst z
    rw [e4_2] at h
    rw [e4_2, e4_2]
    unfold pu
    rw [if_neg (by decide), if_neg (by decide)]
    omega
theorem e4_pu' {u x : Int} (u0 : 0 ≤ u) (u1 : u < 3) (x0 : 0 ≤ x) (x1 : x < 4096) (h : e4 x u < 15) : 0 < pu u ∧ x + pu u < 4096 ∧ e4 (x + pu u) u = e4 x u + 1 := by
  have : u = 0 ∨ u = 1 ∨ u = 2 := by omega
  rcases this with z | z | z
  · subst z
    rw [e4_0] at h
    rw [e4_0, e4_0]
    unfold pu
    rw [if_pos rfl]
    omega
  · subst z
    rw [e4_1] at h
    rw [e4_1, e4_1]
    unfold pu
    rw [if_neg (by decide), if_pos rfl]
    omega
  · subst z
    rw [e4_2] at h
    rw [e4_2, e4_2]
    unfold pu
    rw [if_neg (by decide), if_neg (by decide)]
    omega
theorem r247l {B : va_E} {υ2 : l2_m} {Q : Int → l2_m → Prop} {p r u k : Int} {f : Int → Int} (hp : υ2 186 5 = p) (p2 : 2 ≤ p) (p97 : p ≤ 97) (r0 : 0 ≤ r) (r1 : r < 8) (u0 : 0 ≤ u) (u1 : u < 3) (hf : ∀ j : Int, 0 ≤ j → j < 4096 → υ2 187 (4096 * r + j) = f j ∧ 0 ≤ f j ∧ f j < p) (hz : ∀ j : Int, 0 ≤ j → j < 4096 → υ2 192 j = 0) (h : ∀ s : l2_m, (∀ b j, b ≠ 192 → s b j = υ2 b j) → (∀ j : Int, 0 ≤ j → j < 4096 → s 192 j = derF p f u j) → wC B 240 [vr 186, vi k] s Q) : w247_41 B υ2 r u k 0 Q := by
  unfold w247_41
  refine lz2_inv (fun (i : Int) s => 0 ≤ i ∧ i ≤ 4096 ∧ (∀ b j, b ≠ 192 → s b j = υ2 b j) ∧ (∀ j : Int, 0 ≤ j → j < 4096 → s 192 j = if e4 j u < 15 ∧ j + pu u < i then f (j + pu u) * (e4 j u + 1) % p else 0)) (fun i _ => 4096 - i) ?_ ⟨by decide, by decide, fun _ _ _ => rfl, fun j j0 j1 => ?_⟩
  · intro X i s hX ⟨i0, i1, s1, s2⟩
    refine ⟨⟨by omega, by omega⟩, ?_⟩
    by_cases hi : i < 4096
    · rw [if_pos hi]
      refine ⟨⟨u0, u1⟩, ?_⟩
      intro x ex
      subst x
      obtain ⟨f1, f2, f3⟩ := hf i i0 hi
      have eb := e4_b i u
      by_cases hx : 0 < e4 i u
      · rw [if_pos hx]
        obtain ⟨q1, q2, q3⟩ := e4_pu u0 u1 i0 hi hx
        rw [pu_pow u0 u1, s1 187 _ (by decide), f1, s1 186 5 (by decide), hp]
        have m0 : 0 ≤ f i * e4 i u := Int.mul_nonneg f2 (by omega)
        have m1 : f i * e4 i u ≤ 97 * 16 := Int.mul_le_mul (by omega) (by omega) (by omega) (by omega)
        refine ⟨⟨by omega, by omega, r0, r1, i0, hi, ⟨by omega, by omega⟩, ⟨by omega, by omega⟩, by omega, m0, q1, q2⟩, ?_⟩
        intro s' es
        refine hX (i + 1) s' ⟨by omega, by omega, fun b j z => by rw [es, l2_u_ne z]; exact s1 b j z, fun j j0 j1 => ?_⟩ (by omega)
        by_cases hj : j = i - pu u
        · subst hj
          rw [es]
          unfold l2_u
          rw [if_pos ⟨rfl, rfl⟩, if_pos ⟨by omega, by omega⟩, q3, show i - pu u + pu u = i by omega, show e4 i u - 1 + 1 = e4 i u by omega]
        · rw [es, l2_u_nj hj, s2 j j0 j1]
          by_cases hc : e4 j u < 15 ∧ j + pu u < i
          · rw [if_pos hc, if_pos ⟨hc.1, by omega⟩]
          · rw [if_neg hc, if_neg (fun w => hc ⟨w.1, by omega⟩)]
      · rw [if_neg hx]
        refine hX (i + 1) s ⟨by omega, by omega, s1, fun j j0 j1 => ?_⟩ (by omega)
        rw [s2 j j0 j1]
        by_cases hc : e4 j u < 15 ∧ j + pu u < i
        · rw [if_pos hc, if_pos ⟨hc.1, by omega⟩]
        · rw [if_neg hc, if_neg (fun w => ?_)]
          obtain ⟨w1, w2⟩ := w
          have w3 : j + pu u = i := Classical.byContradiction (fun v => hc ⟨w1, by omega⟩)
          obtain ⟨v1, v2, v3⟩ := e4_pu' u0 u1 j0 j1 w1
          have v4 := e4_b j u
          rw [w3] at v3
          omega
    · rw [if_neg hi]
      refine h s s1 (fun j j0 j1 => ?_)
      rw [s2 j j0 j1]
      unfold derF
      by_cases hc : e4 j u < 15
      · obtain ⟨v1, v2, v3⟩ := e4_pu' u0 u1 j0 j1 hc
        rw [if_pos ⟨hc, by omega⟩, if_pos hc]
      · rw [if_neg (fun w => hc w.1), if_neg hc]
  · rw [hz j j0 j1]
    have : ¬ (e4 j u < 15 ∧ j + pu u < 0) := fun w => by
      have := (e4_pu' u0 u1 j0 j1 w.1).1
      omega
    rw [if_neg this]
theorem pair_derive {F : l2_m → Prop} {B : va_E} {r u k : Int} (hr : rg r) (hu : rg u) (hk : rg k) : PAIR F B 130 247 [vi r, vi u, vi k] := by
  intro σ hC hR
  have B5 := hC.1.2.2.2.2.1
  have h01 := hR.1
  have bad : ¬ ((σ 186 14 = 1 ∧ 0 ≤ r ∧ r < 8) ∧ (0 ≤ u ∧ u < 3) ∧ (σ 186 14 = 1 ∧ 0 ≤ k ∧ k < 8)) → ∀ τ, τ = trb σ 1 → wC B 247 [vr 186, vi r, vi u, vi k] τ (fun y υ => -1 = y ∧ CI F υ υ ∧ RWF υ) := by
    intro hb τ et
    refine o247 ?_
    unfold w247
    intro υ eu
    rw [via et eu (b := 186) (j := 14) (by decide) (by decide)]
    have fin : ∀ ω, ω = trr υ 1 → -1 = (-1 : Int) ∧ CI F ω ω ∧ RWF ω := fun ω ew => ⟨rfl, pair_e hC hR (by decide) et eu ew⟩
    refine ⟨⟨hr, h01⟩, ?_⟩
    by_cases h1 : σ 186 14 = 1 ∧ 0 ≤ r ∧ r < 8
    · rw [if_pos h1]
      refine ⟨hu, ?_⟩
      by_cases h2 : 0 ≤ u ∧ u < 3
      · rw [if_pos h2]
        refine ⟨hk, ?_⟩
        rw [if_neg (fun h3 => hb ⟨h1, h2, h3⟩)]
        exact fin
      · rw [if_neg h2]; exact fin
    · rw [if_neg h1]; exact fin
  refine o130 ?_
  unfold w130
  rw [B5]
  refine ⟨⟨hr, h01⟩, ?_⟩
  by_cases h1 : σ 186 14 = 1 ∧ 0 ≤ r ∧ r < 8
  · rw [if_pos h1]
    refine ⟨hu, ?_⟩
    by_cases h2 : 0 ≤ u ∧ u < 3
    · rw [if_pos h2]
      refine ⟨hk, ?_⟩
      by_cases h3 : σ 186 14 = 1 ∧ 0 ≤ k ∧ k < 8
      · rw [if_pos h3]
        refine ⟨h1.2, ?_⟩
        obtain ⟨b1, b2, b3, b4, b5, b6⟩ := hR.2.2.2.2.2.2.2.2.2 h1.1
        obtain ⟨D1, D2, D3, D4, D5, D6, D7, D8⟩ := hC.2.1 h1.1
        obtain ⟨p2, p97, -⟩ := pr_rest _ b1
        have hA : RefAct B σ 247 [vr 186, vi r, vi u, vi k] k (fun s => s 186 29 = 1 ∧ ∀ j : Int, 0 ≤ j → j < 4096 → s 192 j = derF (σ 186 5) (regR σ r) u j) := by
          intro τ Q kt hQ
          refine o247 ?_
          unfold w247
          intro υ eu
          have a : ∀ j : Int, j ≠ 0 → υ 186 j = σ 186 j := fun j hj => by rw [eu, l2_u_nj hj]; exact kt 186 j (by decide)
          rw [a 14 (by decide)]
          refine ⟨⟨hr, h01⟩, ?_⟩
          rw [if_pos h1]
          refine ⟨hu, ?_⟩
          rw [if_pos h2]
          refine ⟨hk, ?_⟩
          rw [if_pos h3]
          intro υ2 eu2
          obtain ⟨u1, u2, u3⟩ := clr_at eu eu2
          refine r247l (p := σ 186 5) (f := regR σ r) (by rw [u1 186 5 (by decide) (by omega)]; exact kt 186 5 (by decide)) p2 p97 h1.2.1 h1.2.2 h2.1 h2.2 (fun j j0 j1 => ⟨by rw [u1 187 _ (by decide) (by omega)]; exact kt 187 _ (by decide), b3 r j h1.2.1 h1.2.2 j0 j1⟩) u2 ?_
          intro s s1 s2
          exact hQ s (fun b j z w => by rw [s1 b j z]; exact u1 b j z w) ⟨by rw [s1 186 29 (by decide)]; exact u3, s2⟩
        refine c5 (p := σ 186 5) (isP_reg h1.2.1 h1.2.2) (show isPb 159 = true from rfl) (by omega) (wt_ok _ _ _) D1 p2 p97 D7 h2.1 h2.2 (D8 r h1.2.1 h1.2.2) (fun j j0 j1 => b3 r j h1.2.1 h1.2.2 j0 j1) ?_
        intro σ1 t1 t2
        refine act_yes hC hR h1.1 h3.2 (fun b j _ q1 q2 q3 => t1 b j q1 q2 q3) t2 (fun j _ _ => ?_) hA (fun s g => g)
        unfold derF
        split
        · exact ⟨Int.emod_nonneg _ (by omega), Int.emod_lt_of_pos _ (by omega)⟩
        · omega
      · rw [if_neg h3]
        exact bad (fun w => h3 w.2.2)
    · rw [if_neg h2]
      exact bad (fun w => h2 w.2.1)
  · rw [if_neg h1]
    exact bad (fun w => h1 w.1)
