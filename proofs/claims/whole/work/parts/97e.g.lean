/-! ===== Commons: isDivided ===== -/
theorem c30 {L R A : Type} [Lean.Grind.Field L] [Lean.Grind.CommRing R] [Lean.Grind.CommRing A] {c1 : R → Nat → L} {k1 : L → R} {Y : R} (H1 : IsPol c1 k1 Y) {c2 : A → Nat → R} {k2 : R → A} {X : A} (H2 : IsPol c2 k2 X) {p : Int} {em : Int → L} (E : isEm p em) {B : va_E} {σ : l2_m} {K : Int → l2_m → Prop} {o1 o2 : Nat} {f D : A} (ho1 : l2_al o1 = some 512) (ho2 : l2_al o2 = some 512) (n1 : o2 ≠ 117) (n2 : o2 ≠ 119) (hp : σ 34 0 = p) (hI : invOK σ 34 p) (hf : gpw c1 c2 em p (σ o1) f) (hD : gpw c1 c2 em p (σ o2) D) (D0 : D ≠ 0) (hK1 : ∀ (τ : l2_m) (q : A), (∀ b j, b ≠ 117 → b ≠ 119 → τ b j = σ b j) → gpw c1 c2 em p (τ 119) q → f = q * D → K 1 τ) (hK0 : ∀ τ : l2_m, (∀ b j, b ≠ 117 → b ≠ 119 → τ b j = σ b j) → ¬ dv D f → K 0 τ) : wC B 30 [vr 109, vr o1, vr o2] σ K := by
  have p2 := E.1
  have p97 := E.2.1
  refine o30 ho1 ho2 ?_
  unfold w30
  intro s1 es1 s2 es2
  have f1 : ∀ q j, q ≠ 117 → q ≠ 119 → s2 q j = σ q j := fun q j w w' => by
    rw [es2]; unfold fil; rw [if_neg (fun h => w' h.1), es1]; unfold l2_cpy; rw [if_neg (fun h => w h.1)]
  have f2 : ∀ n : Int, 0 ≤ n → n < 512 → s2 117 n = σ o1 n := fun n h h' => by
    rw [es2]; unfold fil; rw [if_neg (fun h => absurd h.1 (by decide)), es1]; unfold l2_cpy; rw [if_pos ⟨rfl, by omega, by omega⟩, Int.sub_zero, Int.zero_add]
  have f3 : ∀ n : Int, 0 ≤ n → n < 512 → s2 119 n = 0 := fun n h h' => by
    rw [es2]; unfold fil; rw [if_pos ⟨rfl, by omega, by omega⟩]
  have z1 : (fun j => s2 o2 (0 + j)) = σ o2 := funext (fun j => by rw [Int.zero_add, f1 o2 j n1 n2])
  refine ⟨⟨by decide, fun j j0 j1 => by have b0 := gpw_c hD j0 j1; rw [Int.zero_add, f1 o2 j n1 n2]; exact ⟨by omega, by omega⟩⟩, ?_⟩
  intro x3 ex3
  rw [z1] at ex3
  have TS := top_spec (σ o2) (p := 512) (by decide)
  rw [← ex3] at TS
  refine ⟨⟨by omega, by omega⟩, ?_⟩
  have a0 : 0 ≤ x3 := by
    rcases Int.lt_or_le x3 0 with w | w
    · exact absurd (gpw_u H1 H2 hD (gpw_0 H1 H2 E (fun n h h' => TS.2.2.1 n (by omega) h'))) D0
    · exact w
  rw [if_neg (by omega)]
  have a1 := TS.2.1
  have v0 := gpw_c hD a0 a1
  have v1 : σ o2 x3 ≠ 0 := TS.2.2.2 a0
  have LD := gpw_ld H1 E hD a0 a1 v1 TS.2.2.1
  have I0 := hI (σ o2 x3) (by omega) (by omega)
  have es2' : s2 34 0 = p := (f1 34 0 (by decide) (by decide)).trans hp
  have iv : invO s2 34 (s2 o2 x3) = σ 35 (σ o2 x3) := by
    rw [f1 o2 x3 n1 n2]
    unfold invO
    rw [if_pos ⟨by omega, by omega⟩]
    exact f1 35 _ (by decide) (by decide)
  refine ⟨⟨a0, a1, by omega, by omega, by rw [f1 o2 x3 n1 n2]; exact ⟨by omega, by omega⟩⟩, ?_⟩
  intro x4 ex4
  rw [iv] at ex4
  have I1 : 0 < x4 ∧ x4 < p ∧ σ o2 x3 * x4 % p = 1 := by rw [ex4]; exact I0
  have e8 : em (σ o2 x3) * em x4 = 1 := by rw [← E.2.2.2.1, ← em_md E, I1.2.2]; exact E.2.2.2.2.1
  unfold w30_55
  refine lz2_inv (fun (x : Int) s => -1 ≤ x ∧ x ≤ 511 ∧ (∀ b j, b ≠ 117 → b ≠ 119 → s b j = σ b j) ∧ (∀ n : Int, x < n → n < 512 → s 117 n = 0) ∧ (∀ n : Int, 0 ≤ n → n ≤ x - x3 → s 119 n = 0) ∧ ∃ Q R' : A, gpw c1 c2 em p (s 117) R' ∧ gpw c1 c2 em p (s 119) Q ∧ f = Q * D + R') (fun x _ => x + 1) ?_ ⟨by decide, by decide, f1, fun n h h' => by omega, fun n h h' => f3 n h (by omega), 0, f, gpw_cg hf f2, gpw_0 H1 H2 E f3, by grind⟩
  intro Z x s hX ⟨x0, x1, s0, s7, s9, Q, R', gR, gQ, eQ⟩
  have es : s 34 0 = p := (s0 34 0 (by decide) (by decide)).trans hp
  refine ⟨⟨by omega, by omega⟩, ?_⟩
  by_cases hx : x < 0
  · rw [if_pos hx]
    have r0 : R' = 0 := gpw_u H1 H2 gR (gpw_0 H1 H2 E (fun n h h' => s7 n (by omega) h'))
    refine hK1 s Q s0 gQ ?_
    rw [eQ, r0]; grind
  · rw [if_neg hx]
    have u0 := gpw_c gR (n := x) (by omega) (by omega)
    refine ⟨⟨by omega, by omega, ⟨by omega, by omega⟩⟩, ?_⟩
    by_cases hc : s 117 x = 0
    · rw [if_pos hc]
      refine hX _ s ⟨by omega, by omega, s0, fun n h h' => ?_, fun n h h' => s9 n h (by omega), Q, R', gR, gQ, eQ⟩ (by omega)
      by_cases hn : n = x
      · rw [hn]; exact hc
      · exact s7 n (by omega) h'
    · rw [if_neg hc]
      refine ⟨⟨⟨by omega, by omega⟩, a0⟩, ?_⟩
      intro x6 e6 x7 e7
      rw [es]
      have g1 : 0 ≤ s 117 x * x4 := Int.mul_nonneg u0.1 (by omega)
      have g2 : s 117 x * x4 ≤ 97 * 97 := Int.mul_le_mul (by omega) (by omega) (by omega) (by omega)
      refine ⟨⟨by omega, by omega, ⟨by omega, by omega⟩⟩, ?_⟩
      intro x8 e8'
      have m0 : 0 ≤ x8 := by rw [e8']; exact Int.emod_nonneg _ (by omega)
      have m1 : x8 < p := by rw [e8']; exact Int.emod_lt_of_pos _ (by omega)
      refine ⟨⟨by omega, by omega⟩, fun _ => ⟨by omega, by omega⟩, ?_⟩
      have LR := gpw_ld H1 E gR (n := x) (by omega) (by omega) hc s7
      have hzQ : ∀ i j : Nat, i + (x3 / 32).toNat = (x / 32).toNat → j + (x3 % 32).toNat = (x % 32).toNat → c1 (c2 Q i) j = 0 := fun i j hi hj => by
        rw [(gQ.1 i j (by omega) (by omega)).2.2, s9 _ (by omega) (by omega), em_z E]
      have LX := fun (q : A) (hq : f = q * D) => lex_ov H1 H2 hf.2 LD.1 LD.2 hq eQ LR.1 LR.2 hzQ
      by_cases hb : x6 < 0 ∨ x7 < 0
      · rw [if_pos hb]
        refine hK0 s s0 (fun w => ?_)
        obtain ⟨q, hq⟩ := w
        obtain ⟨i', j', ei, ej, -⟩ := LX q (by rw [hq]; grind)
        omega
      · rw [if_neg hb]
        obtain ⟨i0, rfl⟩ : ∃ i0 : Nat, x6 = (i0 : Int) := ⟨x6.toNat, by omega⟩
        obtain ⟨j0, rfl⟩ : ∃ j0 : Nat, x7 = (j0 : Int) := ⟨x7.toNat, by omega⟩
        have hDs : gpw c1 c2 em p (s o2) D := gpw_cg hD (fun n _ _ => s0 o2 n n1 n2)
        refine c31 H1 H2 E ho2 n1 es gR hDs a0 a1 (fun j h h' => by rw [s0 o2 j n1 n2]; exact TS.2.2.1 j h h') (by omega) (by omega) m0 m1 (fun τ fr g' => ?_) (fun τ fr hov => ?_)
        · refine ⟨⟨by decide, by decide⟩, ?_⟩
          rw [if_neg (by decide)]
          refine ⟨⟨by omega, by omega⟩, ?_⟩
          intro z ez
          have e9 : em x8 = em (s 117 x) * em x4 := by rw [e8', em_md E, E.2.2.2.1]
          have e10 : em (p - x8) = - em x8 := by rw [em_sb E, em_p E]; grind
          have e11 : k2 (k1 (em (p - x8))) = - k2 (k1 (em x8)) := by rw [e10, po_kneg H1, po_kneg H2]
          have zt : z 117 = τ 117 := funext (fun n => by rw [ez, l2_u_ne (by decide)])
          have z9 : ∀ n : Int, n ≠ (i0 : Int) * 32 + j0 → z 119 n = s 119 n := fun n h => by rw [ez, l2_u_nj h, fr 119 n (by decide)]
          have z9s : z 119 ((i0 : Int) * 32 + j0) = x8 := by rw [ez, l2_u_self]
          refine hX _ z ⟨by omega, by omega, fun b j w w' => by rw [ez, l2_u_ne w', fr b j w]; exact s0 b j w w', fun n h h' => ?_, fun n h h' => ?_, Q + k2 (k1 (em x8)) * (k2 (Y ^ j0) * (X ^ i0 * 1)), R' + k2 (k1 (em (p - x8))) * (k2 (Y ^ j0) * (X ^ i0 * D)), by rw [zt]; exact g', ?_, ?_⟩ (by omega)
          · rw [zt]
            have b0 := gpw_c g' (n := n) (by omega) h'
            have c0 := gpw_c gR (n := n) (by omega) h'
            rw [po_a H2, po_a H1, mo_sh H1 H2, c0.2.2] at b0
            have nz := em_nz E b0.1 b0.2.1
            rcases Int.lt_or_le x n with w | w
            · have t0 : em (τ 117 n) = 0 := by
                rw [← b0.2.2, s7 n w h', em_z E]
                by_cases hcc : i0 ≤ (n / 32).toNat ∧ j0 ≤ (n % 32).toNat
                · rw [if_pos hcc, (hD.1 _ _ (by omega) (by omega)).2.2, TS.2.2.1 _ (by omega) (by omega), em_z E]; grind
                · rw [if_neg hcc]; grind
              exact Classical.byContradiction (fun w' => (nz.mpr w') t0)
            · have hn : n = x := by omega
              have t0 : em (τ 117 n) = 0 := by
                rw [← b0.2.2, hn, if_pos ⟨by omega, by omega⟩, show (x / 32).toNat - i0 = (x3 / 32).toNat by omega, show (x % 32).toNat - j0 = (x3 % 32).toNat by omega, v0.2.2, e10, e9]
                grind
              exact Classical.byContradiction (fun w' => (nz.mpr w') t0)
          · rw [z9 n (by omega)]; exact s9 n h (by omega)
          · refine gpw_st H1 H2 E gQ (gpw_1 H1 H2 E) (fun i j hij => ?_) (fun i j hi hj hi' hj' => ?_) (fun i j hi hj hc' => z9 _ (by omega))
            · rw [one_cc H1 H2] at hij
              by_cases h0 : i = 0 ∧ j = 0
              · omega
              · rw [if_neg h0] at hij; exact absurd rfl hij
            · have c0 := gQ.1 i j hi' hj'
              unfold u1g
              by_cases h0 : i = i0 ∧ j = j0
              · rw [if_pos (by omega), h0.1, h0.2, z9s, s9 _ (by omega) (by omega), Int.mul_one, Int.zero_add, Int.emod_eq_of_lt m0 m1]
              · rw [if_neg (by omega), z9 _ (by omega), Int.mul_zero, Int.add_zero, Int.emod_eq_of_lt c0.1 c0.2.1]
          · rw [e11, eQ]; grind
        · refine ⟨⟨by decide, by decide⟩, ?_⟩
          rw [if_pos rfl]
          refine hK0 τ (fun b j w w' => by rw [fr b j w]; exact s0 b j w w') (fun w => ?_)
          obtain ⟨q, hq⟩ := w
          obtain ⟨i', j', ei, ej, hall⟩ := LX q (by rw [hq]; grind)
          obtain ⟨i, j, nz, hov'⟩ := hov
          have := hall i j nz
          omega
