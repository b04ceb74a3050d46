/-! ===== feed ===== -/
theorem RWF_b {A A' : l2_m} (h : RWF A) (e : ∀ b j, prs b j → b ≠ 189 → ¬ (b = 186 ∧ j = 16) → A' b j = A b j) (e0 : 0 ≤ A' 186 16) (e1 : A' 186 16 ≤ 700) : RWF A' := by
  have k : ∀ j, (j = 1 ∨ j = 2 ∨ j = 5 ∨ j = 6 ∨ j = 7 ∨ j = 8 ∨ j = 14 ∨ j = 22 ∨ j = 45) → A' 186 j = A 186 j := fun j z => e 186 j (by unfold prs; omega) (by omega) (by omega)
  have v : ∀ b j, b = 187 ∨ b = 190 ∨ (199 ≤ b ∧ b ≤ 203) → A' b j = A b j := fun b j z => e b j (by unfold prs; omega) (by omega) (by omega)
  obtain ⟨a1, a2, a3, a4, a5, a6, a7, a8, a9, a10⟩ := h
  have eo : ordA A' = ordA A := by unfold ordA; rw [k 6 (by omega), k 7 (by omega), k 8 (by omega)]
  have er : ∀ r, regR A' r = regR A r := fun r => funext (fun j => v 187 _ (by omega))
  unfold RWF
  rw [k 14 (by omega), k 1 (by omega), k 2 (by omega), k 22 (by omega), k 45 (by omega), k 5 (by omega), k 6 (by omega), k 7 (by omega), k 8 (by omega), eo]
  refine ⟨a1, e0, e1, a4, a5, a6, a7, a8, a9, fun z => ?_⟩
  obtain ⟨b1, b2, b3, b4, b5, b6⟩ := a10 z
  refine ⟨b1, b2, fun r j x0 x1 x2 x3 => by rw [v 187 _ (by omega)]; exact b3 r j x0 x1 x2 x3, fun r x0 x1 => by rw [er]; exact b4 r x0 x1, ⟨fun i x0 x1 => by rw [v 190 _ (by omega)]; exact b5.1 i x0 x1, fun i j x0 x1 x2 => by rw [v 190 _ (by omega), v 190 _ (by omega)]; exact b5.2.1 i j x0 x1 x2, fun j x0 x1 => by obtain ⟨i, y0, y1, y2⟩ := b5.2.2 j x0 x1; exact ⟨i, y0, y1, by rw [v 190 _ (by omega)]; exact y2⟩⟩, fun i x0 x1 => ?_⟩
  obtain ⟨c1', c2', c3'⟩ := b6 i x0 x1
  rw [v 200 _ (by omega), v 201 _ (by omega), v 202 _ (by omega), v 203 _ (by omega), v 201 _ (by omega), v 202 _ (by omega), v 203 _ (by omega)]
  refine ⟨c1', c2', fun w => ?_⟩
  obtain ⟨d1, d2, d3⟩ := c3' w
  refine ⟨fun j y0 y1 => by rw [v 199 _ (by omega)]; exact d1 j y0 y1, ?_, d3⟩
  have : (fun j => A' 199 (4096 * i + j)) = (fun j => A 199 (4096 * i + j)) := funext (fun j => v 199 _ (by omega))
  rw [this]; exact d2
theorem CI_b {F : l2_m → Prop} {σ τ A A' : l2_m} (h : CI F σ A) (t : ∀ b j, cpt b j → b ≠ 32 → b ≠ 33 → τ b j = σ b j) (td : dvO τ) (e : ∀ b j, prs b j → b ≠ 189 → ¬ (b = 186 ∧ (j = 1 ∨ j = 2 ∨ j = 16 ∨ j = 22)) → A' b j = A b j) (hb : CIb τ A') : CI F τ A' := by
  have k : ∀ j, (j = 5 ∨ j = 6 ∨ j = 7 ∨ j = 8 ∨ j = 14 ∨ j = 45) → A' 186 j = A 186 j := fun j z => e 186 j (by unfold prs; omega) (by omega) (by omega)
  have v : ∀ b j, b = 187 ∨ (199 ≤ b ∧ b ≤ 203) → A' b j = A b j := fun b j z => e b j (by unfold prs; omega) (by omega) (by omega)
  obtain ⟨-, hD, hN, ⟨H1, H2, H3, H4⟩, hdo, hz, hF⟩ := h
  have eo : ordA A' = ordA A := by unfold ordA; rw [k 6 (by omega), k 7 (by omega), k 8 (by omega)]
  have er : ∀ r, regR A' r = regR A r := fun r => funext (fun j => v 187 _ (by omega))
  have w : ∀ b j, ((34 ≤ b ∧ b ≤ 37) ∨ b = 41 ∨ (109 ≤ b ∧ b ≤ 113) ∨ (128 ≤ b ∧ b ≤ 157) ∨ (162 ≤ b ∧ b ≤ 185)) → τ b j = σ b j := fun b j z => t b j (by unfold cpt; omega) (by omega) (by omega)
  refine ⟨hb, fun z => ?_, fun z => ?_, ⟨by rw [w 128 5 (by omega)]; exact H1, by rw [w 128 5 (by omega)]; exact H2, by rw [w 128 6 (by omega), k 45 (by omega)]; exact H3, fun i x0 x1 => ?_⟩, td, ?_, ?_⟩
  · rw [k 14 (by omega)] at z
    obtain ⟨D1, D2, D3, D4, D5, D6, D7, D8⟩ := hD z
    rw [eo, k 5 (by omega), k 6 (by omega), k 7 (by omega), k 8 (by omega), w 34 0 (by omega), w 36 0 (by omega), w 36 1 (by omega), w 36 2 (by omega), w 36 3 (by omega)]
    refine ⟨D1, fun x x0 x1 => by rw [w 35 x (by omega)]; exact D2 x x0 x1, D3, D4, D5, D6, fun u u0 u1 => by rw [w 37 u (by omega)]; exact D7 u u0 u1, fun r r0 r1 => ?_⟩
    have r8 : Int.toNat r < 8 := by omega
    rw [er]
    exact PR_congr (D8 r r0 r1) (w _ _ (by omega)) (fun j _ _ => w _ _ (by omega)) (fun j _ _ => w _ _ (by omega))
  · rw [k 14 (by omega)] at z
    obtain ⟨N1, N2⟩ := hN z
    refine ⟨by rw [w 34 0 (by omega)]; exact N1, fun r r0 r1 => ?_⟩
    have r8 : Int.toNat r < 8 := by omega
    rw [w _ _ (by omega)]; exact N2 r r0 r1
  · rw [k 45 (by omega)] at x1
    have es : hsl τ A' i = hsl σ A i := by unfold hsl; rw [w 128 5 (by omega), k 45 (by omega)]
    have hs0 : 0 ≤ hsl σ A i ∧ hsl σ A i < 8 := by unfold hsl; omega
    obtain ⟨c1', c2', c3'⟩ := H4 i x0 x1
    rw [es, v 200 _ (by omega), v 201 _ (by omega), v 202 _ (by omega), v 203 _ (by omega), w 129 _ (by omega), w 130 _ (by omega), w 131 _ (by omega), w 132 _ (by omega)]
    refine ⟨c1', c2', fun z => ?_⟩
    have s8 : Int.toNat (hsl σ A i) < 8 := by omega
    have ef : (fun j => A' 199 (4096 * i + j)) = (fun j => A 199 (4096 * i + j)) := funext (fun j => v 199 _ (by omega))
    rw [ef]
    exact PR_congr (c3' z) (w _ _ (by omega)) (fun j _ _ => w _ _ (by omega)) (fun j _ _ => w _ _ (by omega))
  · rw [w 41 2 (by omega)]; exact hz
  · rw [cgm_eq (fun b j z1 z2 => w b j (by omega))]; exact hF
def pwb (k : Int) : Int := 2 ^ (Int.toNat (24 - 8 * k))
theorem c156 {B : va_E} {σ : l2_m} {K : Int → l2_m → Prop} {x : Int} (hx : rg x) (s0 : 0 ≤ σ 32 1) (s1 : σ 32 1 + 4 ≤ 700) (h : ∀ τ : l2_m, (∀ b j, ¬ (b = 32 ∧ j = 1) → ¬ (b = 33 ∧ σ 32 1 ≤ j) → τ b j = σ b j) → τ 32 1 = σ 32 1 + 4 → (∀ k : Int, 0 ≤ k → k < 4 → τ 33 (σ 32 1 + k) = x / pwb k % 256) → K 0 τ) : wC B 156 [vr 32, vi x] σ K := by
  refine o156 ?_
  unfold w156 w156_3
  refine lz2_inv (fun (z : Int) s => ∃ k : Int, z = 24 - 8 * k ∧ 0 ≤ k ∧ k ≤ 4 ∧ (∀ b j, ¬ (b = 32 ∧ j = 1) → ¬ (b = 33 ∧ σ 32 1 ≤ j) → s b j = σ b j) ∧ s 32 1 = σ 32 1 + k ∧ (∀ i : Int, 0 ≤ i → i < k → s 33 (σ 32 1 + i) = x / pwb i % 256)) (fun z _ => z + 8) ?_ ⟨0, by decide, by decide, by decide, fun _ _ _ _ => rfl, by omega, fun i i0 i1 => by omega⟩
  intro X z s hX ⟨k, ez, k0, k4, f1, f2, f3⟩
  refine ⟨⟨by omega, by omega⟩, ?_⟩
  by_cases hz : z < 0
  · rw [if_pos hz]
    have : k = 4 := by omega
    subst this
    exact h s f1 f2 f3
  · rw [if_neg hz, f2]
    refine ⟨⟨by omega, by omega⟩, ?_⟩
    rw [if_pos (by omega)]
    refine ⟨⟨hx, by omega, by omega, by omega, by omega⟩, ?_⟩
    intro s1' e1 s2' e2
    have g : ∀ b j, s2' b j = if b = 32 ∧ j = 1 then σ 32 1 + k + 1 else if b = 33 ∧ j = σ 32 1 + k then x / pwb k % 256 else s b j := fun b j => by
      rw [e2]
      unfold l2_u
      by_cases h1 : b = 32 ∧ j = 1
      · rw [if_pos h1, if_pos h1, e1, l2_u_ne (by decide), f2]
      · rw [if_neg h1, if_neg h1, e1]
        unfold l2_u pwb
        rw [ez]
    refine hX (z + (-8)) s2' ⟨k + 1, by omega, by omega, by omega, fun b j w1 w2 => ?_, ?_, fun i i0 i1 => ?_⟩ (by omega)
    · rw [g, if_neg w1, if_neg (by omega)]; exact f1 b j w1 w2
    · rw [g, if_pos ⟨rfl, rfl⟩]; omega
    · rw [g, if_neg (by omega)]
      by_cases hi : i = k
      · rw [if_pos ⟨rfl, by rw [hi]⟩, hi]
      · rw [if_neg (by omega)]; exact f3 i i0 (by omega)
theorem pair_feed {F : l2_m → Prop} {B : va_E} {a b c d e : Int} (ha : rg a) (hb : rg b) (hc : rg c) (hd : rg d) (he : rg e) : PAIR F B 107 189 [vi a, vi b, vi c, vi d, vi e] := by
  intro σ hC hR
  obtain ⟨B1, B2, B3, B4, B5, B6⟩ := hC.1
  obtain ⟨a1, a2, a3, a4, a5, a6, a7, a8, a9, a10⟩ := id hR
  refine o107 ?_
  unfold w107
  rw [B1]
  refine ⟨⟨by omega, by omega⟩, ?_⟩
  by_cases hf : 700 < σ 186 16 + 20
  · rw [if_pos hf]
    refine o189 ?_
    unfold w189
    intro υ eu
    rw [u0_at eu (b := 186) (j := 16) (by decide)]
    refine ⟨⟨by omega, by omega⟩, ?_⟩
    rw [if_pos hf]
    exact ⟨rfl, pair_0 hC hR eu⟩
  · rw [if_neg hf]
    obtain ⟨wd, hwd⟩ : ∃ wd : Int → Int, wd = fun i => if i < 4 then a else if i < 8 then b else if i < 12 then c else if i < 16 then d else e := ⟨_, rfl⟩
    have key : ∀ τ : l2_m, (∀ b j, ¬ (b = 32 ∧ j = 1) → ¬ (b = 33 ∧ σ 32 1 ≤ j) → τ b j = σ b j) → τ 32 1 = σ 32 1 + 20 → (∀ i : Int, 0 ≤ i → i < 20 → τ 33 (σ 32 1 + i) = wd i / pwb (i % 4) % 256) → wC B 189 [vr 186, vi a, vi b, vi c, vi d, vi e] τ (fun y υ => τ 32 1 = y ∧ CI F υ υ ∧ RWF υ) := by
      intro τ t1 t2 t3
      refine o189 ?_
      unfold w189
      intro υ eu
      have hυ : ∀ b j, 34 ≤ b → ¬ (b = 186 ∧ j = 0) → υ b j = σ b j := fun b j z w => (u0_at eu w).trans (t1 b j (by omega) (by omega))
      rw [hυ 186 16 (by decide) (by decide)]
      refine ⟨⟨by omega, by omega⟩, ?_⟩
      rw [if_neg hf]
      unfold w189_23
      refine lz2_inv (fun (i : Int) s => 0 ≤ i ∧ i ≤ 20 ∧ (∀ b j, ¬ (b = 186 ∧ j = 16) → ¬ (b = 189 ∧ σ 186 16 ≤ j) → s b j = υ b j) ∧ s 186 16 = σ 186 16 + i ∧ (∀ k : Int, 0 ≤ k → k < i → s 189 (σ 186 16 + k) % 256 = wd k / pwb (k % 4) % 256)) (fun i _ => 20 - i) ?_ ⟨by decide, by decide, fun _ _ _ _ => rfl, by rw [hυ 186 16 (by decide) (by decide)]; omega, fun k k0 k1 => by omega⟩
      intro X i s hX ⟨i0, i1, f1, f2, f3⟩
      refine ⟨⟨by omega, by omega⟩, ?_⟩
      by_cases hi : i < 20
      · rw [if_pos hi]
        have one : ∀ z : Int, rg z → z = wd i → w189_76 B s a b c d e i z X (fun y υ => τ 32 1 = y ∧ CI F υ υ ∧ RWF υ) := by
          intro z hz ez
          unfold w189_76
          rw [f2]
          refine ⟨⟨⟨by omega, by omega⟩, i0, hz, by omega, by omega, by omega, by omega⟩, ?_⟩
          intro s1' e1 s2' e2
          have g : ∀ b j, s2' b j = if b = 186 ∧ j = 16 then σ 186 16 + i + 1 else if b = 189 ∧ j = σ 186 16 + i then byt (byt (z / pwb (i % 4))) else s b j := fun b j => by
            rw [e2]
            unfold l2_u
            by_cases h1 : b = 186 ∧ j = 16
            · rw [if_pos h1, if_pos h1, e1, l2_u_ne (by decide), f2]
            · rw [if_neg h1, if_neg h1, e1]
              unfold l2_u pwb
              rfl
          refine hX (i + 1) s2' ⟨by omega, by omega, fun b j w1 w2 => ?_, ?_, fun k k0 k1 => ?_⟩ (by omega)
          · rw [g, if_neg w1, if_neg (by omega)]; exact f1 b j w1 w2
          · rw [g, if_pos ⟨rfl, rfl⟩]; omega
          · rw [g, if_neg (by omega)]
            by_cases hk : k = i
            · rw [if_pos ⟨rfl, by rw [hk]⟩, hk, ez]
              unfold byt
              omega
            · rw [if_neg (by omega)]; exact f3 k k0 (by omega)
        by_cases h4 : i < 4
        · rw [if_pos h4]; exact one a ha (by rw [hwd]; show a = if i < 4 then a else _; rw [if_pos h4])
        · rw [if_neg h4]
          by_cases h8 : i < 8
          · rw [if_pos h8]; exact one b hb (by rw [hwd]; show b = if i < 4 then a else if i < 8 then b else _; rw [if_neg h4, if_pos h8])
          · rw [if_neg h8]
            by_cases h12 : i < 12
            · rw [if_pos h12]; exact one c hc (by rw [hwd]; show c = if i < 4 then a else if i < 8 then b else if i < 12 then c else _; rw [if_neg h4, if_neg h8, if_pos h12])
            · rw [if_neg h12]
              by_cases h16 : i < 16
              · rw [if_pos h16]; exact one d hd (by rw [hwd]; show d = if i < 4 then a else if i < 8 then b else if i < 12 then c else if i < 16 then d else e; rw [if_neg h4, if_neg h8, if_neg h12, if_pos h16])
              · rw [if_neg h16]; exact one e he (by rw [hwd]; show e = if i < 4 then a else if i < 8 then b else if i < 12 then c else if i < 16 then d else e; rw [if_neg h4, if_neg h8, if_neg h12, if_neg h16])
      · rw [if_neg hi]
        have ei : i = 20 := by omega
        subst ei
        have hs : ∀ b j, b ≠ 33 → b ≠ 189 → ¬ (b = 32 ∧ j = 1) → ¬ (b = 186 ∧ (j = 16 ∨ j = 0)) → s b j = σ b j := fun b j w1 w2 w3 w4 => by
          rw [f1 b j (by omega) (by omega), u0_at eu (by omega)]; exact t1 b j w3 (by omega)
        refine ⟨by rw [t2, f2, B1], CI_b hC (fun b j z w1 w2 => hs b j w2 (by unfold cpt at z; omega) (by omega) (by unfold cpt at z; omega)) ?_ (fun b j z w1 w2 => hs b j (by unfold prs at z; omega) w1 (by unfold prs at z; omega) (by unfold prs at z; omega)) ?_, RWF_b hR (fun b j z w1 w2 => hs b j (by unfold prs at z; omega) w1 (by unfold prs at z; omega) (by unfold prs at z; omega)) (by rw [f2]; omega) (by rw [f2]; omega)⟩
        · unfold dvO; rw [hs 74 3 (by decide) (by decide) (by decide) (by decide), hs 74 4 (by decide) (by decide) (by decide) (by decide)]; exact hC.2.2.2.2.1
        · refine ⟨?_, ?_, ?_, ?_, ?_, fun k k0 k1 => ?_⟩
          · rw [f1 32 1 (by decide) (by omega), u0_at eu (by decide), t2, f2, B1]
          · rw [hs 32 2 (by decide) (by decide) (by decide) (by decide), hs 186 1 (by decide) (by decide) (by decide) (by decide)]; exact B2
          · rw [hs 32 3 (by decide) (by decide) (by decide) (by decide), hs 186 22 (by decide) (by decide) (by decide) (by decide)]; exact B3
          · rw [hs 32 4 (by decide) (by decide) (by decide) (by decide), hs 186 2 (by decide) (by decide) (by decide) (by decide)]; exact B4
          · rw [hs 32 5 (by decide) (by decide) (by decide) (by decide), hs 186 14 (by decide) (by decide) (by decide) (by decide)]; exact B5
          · rw [f2] at k1
            have e33 : s 33 k = τ 33 k := by rw [f1 33 k (by omega) (by omega)]; exact u0_at eu (by omega)
            rw [e33]
            by_cases hk : k < σ 186 16
            · rw [t1 33 k (by omega) (by omega), f1 189 k (by omega) (by omega), hυ 189 k (by decide) (by omega)]
              exact B6 k k0 hk
            · obtain ⟨m, rfl⟩ : ∃ m : Int, k = σ 186 16 + m := ⟨k - σ 186 16, by omega⟩
              have g := t3 m (by omega) (by omega)
              rw [B1] at g
              rw [g, f3 m (by omega) (by omega)]
    refine c156 ha (by omega) (by omega) (fun s1 p1 p2 p3 => ?_)
    refine c156 hb (by omega) (by omega) (fun s2 q1 q2 q3 => ?_)
    refine c156 hc (by omega) (by omega) (fun s3 r1 r2 r3 => ?_)
    refine c156 hd (by omega) (by omega) (fun s4 u1 u2 u3 => ?_)
    refine c156 he (by omega) (by omega) (fun s5 v1 v2 v3 => ?_)
    refine key s5 (fun b j w1 w2 => ?_) (by omega) (fun i i0 i1 => ?_)
    · rw [v1 b j w1 (by omega), u1 b j w1 (by omega), r1 b j w1 (by omega), q1 b j w1 (by omega)]; exact p1 b j w1 w2
    · have wdi : wd i = if i < 4 then a else if i < 8 then b else if i < 12 then c else if i < 16 then d else e := by rw [hwd]
      rw [wdi]
      by_cases h4 : i < 4
      · rw [if_pos h4, v1 33 _ (by omega) (by omega), u1 33 _ (by omega) (by omega), r1 33 _ (by omega) (by omega), q1 33 _ (by omega) (by omega), p3 i i0 h4, show i % 4 = i by omega]
      · rw [if_neg h4]
        by_cases h8 : i < 8
        · have := q3 (i - 4) (by omega) (by omega)
          rw [p2, show σ 32 1 + 4 + (i - 4) = σ 32 1 + i by omega] at this
          rw [if_pos h8, v1 33 _ (by omega) (by omega), u1 33 _ (by omega) (by omega), r1 33 _ (by omega) (by omega), this, show i % 4 = i - 4 by omega]
        · rw [if_neg h8]
          by_cases h12 : i < 12
          · have := r3 (i - 8) (by omega) (by omega)
            rw [q2, p2, show σ 32 1 + 4 + 4 + (i - 8) = σ 32 1 + i by omega] at this
            rw [if_pos h12, v1 33 _ (by omega) (by omega), u1 33 _ (by omega) (by omega), this, show i % 4 = i - 8 by omega]
          · rw [if_neg h12]
            by_cases h16 : i < 16
            · have := u3 (i - 12) (by omega) (by omega)
              rw [r2, q2, p2, show σ 32 1 + 4 + 4 + 4 + (i - 12) = σ 32 1 + i by omega] at this
              rw [if_pos h16, v1 33 _ (by omega) (by omega), this, show i % 4 = i - 12 by omega]
            · have := v3 (i - 16) (by omega) (by omega)
              rw [u2, r2, q2, p2, show σ 32 1 + 4 + 4 + 4 + 4 + (i - 16) = σ 32 1 + i by omega] at this
              rw [if_neg h16, this, show i % 4 = i - 16 by omega]
