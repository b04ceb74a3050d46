/-! ===== undo ===== -/
/-- the reference has undone its latest act -/
def UndR (A A' : l2_m) : Prop := (∀ b j, prs b j → b ≠ 187 → b ≠ 190 → ¬ (b = 186 ∧ (j = 1 ∨ j = 2 ∨ j = 6 ∨ j = 7 ∨ j = 8 ∨ j = 45)) → A' b j = A b j) ∧ A' 186 45 = A 186 45 - 1 ∧ A' 186 6 = A 201 (A 186 45 - 1) ∧ A' 186 7 = A 202 (A 186 45 - 1) ∧ A' 186 8 = A 203 (A 186 45 - 1) ∧ A' 186 1 = 0 ∧ A' 186 2 = -1 ∧ alongOK A' (wt (A 201 (A 186 45 - 1)) (A 202 (A 186 45 - 1)) (A 203 (A 186 45 - 1))) ∧ (∀ q j : Int, 0 ≤ q → q < 8 → 0 ≤ j → j < 4096 → A' 187 (4096 * q + j) = if q = A 200 (A 186 45 - 1) then A 199 (4096 * (A 186 45 - 1) + j) else A 187 (4096 * q + j))
theorem RWF_und {A A' : l2_m} (hR : RWF A) (ht : A 186 14 = 1) (hn : A 186 45 ≠ 0) (hA : UndR A A') : RWF A' := by
  obtain ⟨a1, a2, a3, a4, a5, a6, a7, a8, a9, a10⟩ := hR
  obtain ⟨b1, b2, b3, b4, b5, b6⟩ := a10 ht
  obtain ⟨L1, L45, L6, L7, L8, L4, L5, La, Lr⟩ := hA
  obtain ⟨z1, z2, z3⟩ := b6 (A 186 45 - 1) (by omega) (by omega)
  have k5 : ∀ j, (j = 5 ∨ j = 14 ∨ j = 16 ∨ j = 22) → A' 186 j = A 186 j := fun j z => L1 186 j (by unfold prs; omega) (by omega) (by omega) (by omega)
  have hv : ∀ b j, 199 ≤ b → b ≤ 203 → A' b j = A b j := fun b j x y => L1 b j (by unfold prs; omega) (by omega) (by omega) (by omega)
  have eo : ordA A' = wt (A 201 (A 186 45 - 1)) (A 202 (A 186 45 - 1)) (A 203 (A 186 45 - 1)) := by unfold ordA; rw [L6, L7, L8]
  unfold RWF
  rw [k5 14 (by omega), k5 16 (by omega), k5 22 (by omega), k5 5 (by omega), eo, L6, L7, L8, L45, L4, L5]
  refine ⟨a1, a2, a3, by decide, by decide, a6, by omega, by omega, fun z => by omega, fun _ => ⟨b1, z2, fun r j r0 r1 j0 j1 => ?_, fun r r0 r1 => ?_, La, fun i x0 x1 => ?_⟩⟩
  · rw [Lr r j r0 r1 j0 j1]
    by_cases hr : r = A 200 (A 186 45 - 1)
    · rw [if_pos hr]; exact (z3 (by omega)).1 j j0 j1
    · rw [if_neg hr]; exact b3 r j r0 r1 j0 j1
  · by_cases hr : r = A 200 (A 186 45 - 1)
    · rw [cnt_congr (f := regR A' r) (g := fun k => A 199 (4096 * (A 186 45 - 1) + k)) (fun j j0 j1 => by
        show A' 187 (4096 * r + j) = _
        rw [Lr r j r0 r1 j0 j1, if_pos hr])]
      exact (z3 (by omega)).2.1
    · rw [cnt_congr (f := regR A' r) (g := regR A r) (fun j j0 j1 => by
        show A' 187 (4096 * r + j) = _
        rw [Lr r j r0 r1 j0 j1, if_neg hr]; rfl)]
      exact b4 r r0 r1
  · obtain ⟨w1, w2, w3⟩ := b6 i x0 (by omega)
    rw [hv 200 _ (by omega) (by omega), hv 201 i (by omega) (by omega), hv 202 i (by omega) (by omega), hv 203 i (by omega) (by omega), hv 201 (i + 1) (by omega) (by omega), hv 202 (i + 1) (by omega) (by omega), hv 203 (i + 1) (by omega) (by omega)]
    refine ⟨w1, w2, fun z => ?_⟩
    obtain ⟨v1, v2, v3, v4, v5⟩ := w3 z
    rw [if_neg (by omega)] at v3 v4 v5
    refine ⟨fun j j0 j1 => by rw [hv 199 _ (by omega) (by omega)]; exact v1 j j0 j1, ?_, ?_, ?_, ?_⟩
    · rw [cnt_congr (g := fun k => A 199 (4096 * i + k)) (fun j j0 j1 => hv 199 _ (by omega) (by omega))]; exact v2
    · rw [v3]
      by_cases hl : i + 1 = A 186 45 - 1
      · rw [if_pos hl, hl]
      · rw [if_neg hl]
    · rw [v4]
      by_cases hl : i + 1 = A 186 45 - 1
      · rw [if_pos hl, hl]
      · rw [if_neg hl]
    · rw [v5]
      by_cases hl : i + 1 = A 186 45 - 1
      · rw [if_pos hl, hl]
      · rw [if_neg hl]
theorem CI_und {F : l2_m → Prop} {σ τ A A' : l2_m} (hC : CI F σ A) (hR : RWF A) (ht : A 186 14 = 1) (hn : A 186 45 ≠ 0) (hA : UndR A A') (t : ∀ b j, b ≠ 32 → b ≠ 36 → b ≠ 37 → b ≠ 128 → (b < 162 ∨ 185 < b) → τ b j = σ b j) (t32 : ∀ j, j ≠ 2 → j ≠ 4 → τ 32 j = σ 32 j) (t2 : τ 32 2 = 0) (t4 : τ 32 4 = -1) (o0 : τ 36 0 = A' 186 6) (o1 : τ 36 1 = A' 186 7) (o2 : τ 36 2 = A' 186 8) (o3 : τ 36 3 = 3 - A' 186 7 - A' 186 8) (oU : ∀ u : Int, 0 ≤ u → u < 3 → τ 37 u = UW (ordA A') u) (oR : ∀ r : Int, 0 ≤ r → r < 8 → PR τ (162 + 3 * Int.toNat r) (ordA A') (regR A' r)) (h5 : τ 128 5 = (σ 128 5 + 7) % 8) (h6 : τ 128 6 = max (σ 128 6 - 1) 0) : CI F τ A' := by
  obtain ⟨⟨B1, B2, B3, B4, B5, B6⟩, hD, hN, ⟨H1, H2, H3, H4⟩, hdo, hz, hF⟩ := hC
  obtain ⟨-, -, -, -, -, -, a0, a8, -, hT⟩ := hR
  obtain ⟨D1, D2, D3, D4, D5, D6, D7, D8⟩ := hD ht
  obtain ⟨L1, L45, L6, L7, L8, L4, L5, La, Lr⟩ := hA
  have k5 : ∀ j, (j = 5 ∨ j = 14 ∨ j = 16 ∨ j = 22) → A' 186 j = A 186 j := fun j z => L1 186 j (by unfold prs; omega) (by omega) (by omega) (by omega)
  have hv : ∀ b j, 199 ≤ b → b ≤ 203 → A' b j = A b j := fun b j x y => L1 b j (by unfold prs; omega) (by omega) (by omega) (by omega)
  have w : ∀ b j, (b < 36 ∨ (37 < b ∧ b < 128) ∨ (128 < b ∧ b < 162)) → b ≠ 32 → τ b j = σ b j := fun b j z1 z2 => t b j z2 (by omega) (by omega) (by omega) (by omega)
  refine ⟨⟨?_, ?_, ?_, ?_, ?_, fun i x0 x1 => ?_⟩, fun _ => ?_, fun z => ?_, ⟨by rw [h5]; omega, by rw [h5]; omega, by rw [h6, L45]; omega, fun i x0 x1 => ?_⟩, ?_, ?_, ?_⟩
  · rw [t32 1 (by decide) (by decide), k5 16 (by omega)]; exact B1
  · rw [t2, L4]
  · rw [t32 3 (by decide) (by decide), k5 22 (by omega)]; exact B3
  · rw [t4, L5]
  · rw [t32 5 (by decide) (by decide), k5 14 (by omega)]; exact B5
  · rw [k5 16 (by omega)] at x1
    rw [w 33 i (by omega) (by omega), L1 189 i (by unfold prs; omega) (by omega) (by omega) (by omega)]
    exact B6 i x0 x1
  · rw [k5 5 (by omega)]
    exact ⟨by rw [w 34 0 (by omega) (by omega)]; exact D1, fun y y0 y1 => by rw [w 35 y (by omega) (by omega)]; exact D2 y y0 y1, o0, o1, o2, o3, oU, oR⟩
  · rw [k5 14 (by omega)] at z; omega
  · rw [L45] at x1
    have es : hsl τ A' i = hsl σ A i := by unfold hsl; rw [h5, L45]; omega
    have hs0 : 0 ≤ hsl σ A i ∧ hsl σ A i < 8 := by unfold hsl; omega
    obtain ⟨c1', c2', c3'⟩ := H4 i x0 (by omega)
    rw [es, hv 200 _ (by omega) (by omega), hv 201 _ (by omega) (by omega), hv 202 _ (by omega) (by omega), hv 203 _ (by omega) (by omega), w 129 _ (by omega) (by omega), w 130 _ (by omega) (by omega), w 131 _ (by omega) (by omega), w 132 _ (by omega) (by omega)]
    refine ⟨c1', c2', fun z => ?_⟩
    have s8 : Int.toNat (hsl σ A i) < 8 := by omega
    have ef : (fun j => A' 199 (4096 * i + j)) = (fun j => A 199 (4096 * i + j)) := funext (fun j => hv 199 _ (by omega) (by omega))
    rw [ef]
    exact PR_congr (c3' z) (w _ _ (by omega) (by omega)) (fun j _ _ => w _ _ (by omega) (by omega)) (fun j _ _ => w _ _ (by omega) (by omega))
  · unfold dvO
    rw [w 74 3 (by omega) (by omega), w 74 4 (by omega) (by omega)]
    exact hdo
  · rw [w 41 2 (by omega) (by omega)]; exact hz
  · rw [cgm_eq (fun b j z1 z2 => w b j (by omega) (by omega))]
    exact hF
theorem r274 {B : va_E} {σ τ : l2_m} {Q : Int → l2_m → Prop} (hR : RWF σ) (ht : σ 186 14 = 1) (hn : σ 186 45 ≠ 0) (kt : ∀ b j, 186 ≤ b → τ b j = σ b j) (hQ : ∀ ω : l2_m, UndR σ ω → (∀ b j, b < 186 → ω b j = τ b j) → Q 1 ω) : wC B 274 [vr 186] τ Q := by
  obtain ⟨a1, a2, a3, a4, a5, a6, a7, a8, a9, a10⟩ := id hR
  obtain ⟨b1, b2, b3, b4, b5, b6⟩ := a10 ht
  obtain ⟨z1, z2, z3⟩ := b6 (σ 186 45 - 1) (by omega) (by omega)
  refine o274 ?_
  unfold w274
  intro υ eu
  have hυ : ∀ b j, 186 ≤ b → ¬ (b = 186 ∧ j = 0) → υ b j = σ b j := fun b j z w => (u0_at eu w).trans (kt b j z)
  rw [hυ 186 14 (by decide) (by decide), hυ 186 45 (by decide) (by decide), ht]
  refine ⟨by decide, ?_⟩
  rw [if_neg (by decide)]
  refine ⟨⟨by omega, by omega⟩, ?_⟩
  rw [if_neg hn]
  intro t et
  have t45 : t 186 45 = σ 186 45 - 1 := by rw [et]; unfold l2_u; rw [if_pos ⟨rfl, rfl⟩]
  have tn : ∀ b j, ¬ (b = 186 ∧ j = 45) → t b j = υ b j := fun b j w => by rw [et]; unfold l2_u; rw [if_neg w]
  have th : ∀ b j, 186 ≤ b → ¬ (b = 186 ∧ (j = 0 ∨ j = 45)) → t b j = σ b j := fun b j z w => by rw [tn b j (by omega)]; exact hυ b j z (by omega)
  rw [t45]
  refine ⟨⟨by omega, by omega⟩, ?_⟩
  intro x ex
  have ex' : x = σ 200 (σ 186 45 - 1) := by rw [ex]; exact th 200 _ (by decide) (by omega)
  have hxr : rg x := by
    rcases z1 with w | w
    · rw [ex', w]; decide
    · exact ⟨by omega, by omega⟩
  unfold w274_49
  refine lz2_inv (fun (i : Int) s => 0 ≤ i ∧ i ≤ 4096 ∧ (∀ b j, b ≠ 187 → s b j = t b j) ∧ (∀ q j : Int, 0 ≤ q → q < 8 → 0 ≤ j → j < 4096 → s 187 (4096 * q + j) = if q = x ∧ j < i then σ 199 (4096 * (σ 186 45 - 1) + j) else σ 187 (4096 * q + j))) (fun i _ => 4096 - i) ?_ ⟨by decide, by decide, fun _ _ _ => rfl, fun q j q0 q1 j0 j1 => by rw [if_neg (by omega)]; exact th 187 _ (by decide) (by omega)⟩
  intro X i s hX ⟨i0, i1, s1, s2⟩
  have s45 : s 186 45 = σ 186 45 - 1 := by rw [s1 186 45 (by decide)]; exact t45
  refine ⟨hxr, fun _ => ⟨by omega, by omega⟩, ?_⟩
  by_cases hc : x = -1 ∨ ¬ i < 4096
  · rw [if_pos hc]
    unfold w274_94
    rw [s45]
    refine ⟨⟨by omega, by omega⟩, ?_⟩
    intro u1 eu1
    have u45 : u1 186 45 = σ 186 45 - 1 := by rw [eu1, l2_u_nj (by decide)]; exact s45
    rw [u45]
    refine ⟨⟨by omega, by omega⟩, ?_⟩
    intro u2 eu2
    have u45' : u2 186 45 = σ 186 45 - 1 := by rw [eu2, l2_u_nj (by decide)]; exact u45
    rw [u45']
    refine ⟨⟨by omega, by omega⟩, ?_⟩
    intro u3 eu3
    have g201 : ∀ b j, 199 ≤ b → b ≤ 203 → s b j = σ b j := fun b j x y => by rw [s1 b j (by omega)]; exact th b j (by omega) (by omega)
    have e3 : ∀ b j, ¬ (b = 186 ∧ (j = 6 ∨ j = 7 ∨ j = 8)) → u3 b j = s b j := fun b j w => by
      rw [eu3]; unfold l2_u; rw [if_neg (by omega), eu2]; unfold l2_u; rw [if_neg (by omega), eu1]; unfold l2_u; rw [if_neg (by omega)]
    have f6 : u3 186 6 = σ 201 (σ 186 45 - 1) := by
      rw [eu3, l2_u_nj (by decide), eu2, l2_u_nj (by decide), eu1]; unfold l2_u; rw [if_pos ⟨rfl, rfl⟩]; exact g201 201 _ (by omega) (by omega)
    have f7 : u3 186 7 = σ 202 (σ 186 45 - 1) := by
      rw [eu3, l2_u_nj (by decide), eu2]; unfold l2_u; rw [if_pos ⟨rfl, rfl⟩, eu1]; unfold l2_u; rw [if_neg (by omega)]; exact g201 202 _ (by omega) (by omega)
    have f8 : u3 186 8 = σ 203 (σ 186 45 - 1) := by
      rw [eu3]; unfold l2_u; rw [if_pos ⟨rfl, rfl⟩, eu2]; unfold l2_u; rw [if_neg (by omega), eu1]; unfold l2_u; rw [if_neg (by omega)]; exact g201 203 _ (by omega) (by omega)
    refine r195 f6 f7 f8 z2 ?_
    intro u4 g1 g2 ω ew
    have h4 : ∀ b j, ¬ (b = 186 ∧ (j = 1 ∨ j = 2)) → ω b j = u4 b j := fun b j w => by rw [ew, trr_at, if_neg (by omega), if_neg (by omega)]
    have hall : ∀ b j, b ≠ 190 → ¬ (b = 186 ∧ (j = 1 ∨ j = 2 ∨ j = 6 ∨ j = 7 ∨ j = 8 ∨ j = 25)) → ω b j = s b j := fun b j w1 w2 => by
      rw [h4 b j (by omega), g1 b j w1 (by omega)]; exact e3 b j (by omega)
    refine hQ ω ⟨fun b j y1 y2 y3 y4 => ?_, ?_, ?_, ?_, ?_, ?_, ?_, ?_, fun q j q0 q1 j0 j1 => ?_⟩ (fun b j w => ?_)
    · rw [hall b j y3 (by unfold prs at y1; omega), s1 b j y2]
      exact th b j (by unfold prs at y1; omega) (by unfold prs at y1; omega)
    · rw [hall 186 45 (by decide) (by omega)]; exact s45
    · rw [h4 186 6 (by omega), g1 186 6 (by decide) (by omega)]; exact f6
    · rw [h4 186 7 (by omega), g1 186 7 (by decide) (by omega)]; exact f7
    · rw [h4 186 8 (by omega), g1 186 8 (by decide) (by omega)]; exact f8
    · rw [ew, trr_at, if_neg (by decide), if_pos ⟨rfl, rfl⟩]
    · rw [ew, trr_at, if_pos ⟨rfl, rfl⟩]
    · have e190 : ∀ j, ω 190 j = u4 190 j := fun j => h4 190 j (by omega)
      exact ⟨fun i x0 x1 => by rw [e190]; exact g2.1 i x0 x1, fun i j x0 x1 x2 => by rw [e190, e190]; exact g2.2.1 i j x0 x1 x2, fun j x0 x1 => by obtain ⟨i, y0, y1, y2⟩ := g2.2.2 j x0 x1; exact ⟨i, y0, y1, by rw [e190]; exact y2⟩⟩
    · rw [hall 187 _ (by decide) (by omega), s2 q j q0 q1 j0 j1, ← ex']
      by_cases hq : q = x
      · have hji : j < i := by omega
        rw [if_pos hq, if_pos ⟨hq, hji⟩]
      · rw [if_neg (fun w => hq w.1), if_neg hq]
    · rw [hall b j (by omega) (by omega), s1 b j (by omega), tn b j (by omega)]
      exact u0_at eu (by omega)
  · rw [if_neg hc]
    have hx8 : 0 ≤ x ∧ x < 8 := by
      rcases z1 with w | w
      · exact absurd (Or.inl (ex'.trans w)) hc
      · rw [ex']; exact w
    have hi : i < 4096 := by
      rcases Int.lt_or_le i 4096 with w | w
      · exact w
      · exact absurd (Or.inr (by omega)) hc
    rw [s45]
    refine ⟨⟨by omega, by omega, by omega, by omega⟩, ?_⟩
    intro s' es
    refine hX (i + 1) s' ⟨by omega, by omega, fun b j w => by rw [es, l2_u_ne w]; exact s1 b j w, fun q j q0 q1 j0 j1 => ?_⟩ (by omega)
    rw [es]
    unfold l2_u
    by_cases hj : 4096 * q + j = 4096 * x + i
    · have hq : q = x := by omega
      have hji : j = i := by omega
      rw [if_pos ⟨rfl, hj⟩, if_pos ⟨hq, by omega⟩, hji, s1 199 _ (by decide)]
      exact th 199 _ (by decide) (by omega)
    · rw [if_neg (fun w => hj w.2), s2 q j q0 q1 j0 j1]
      by_cases hq : q = x ∧ j < i
      · rw [if_pos hq, if_pos ⟨hq.1, by omega⟩]
      · rw [if_neg hq, if_neg (fun w => hq ⟨w.1, by omega⟩)]
theorem tkn_at (σ : l2_m) (b : Nat) (j : Int) : tkn σ b j = if b = 128 ∧ j = 6 then max (σ 128 6 - 1) 0 else if b = 128 ∧ j = 5 then (σ 128 5 + 7) % 8 else σ b j := rfl
theorem pair_undo {F : l2_m → Prop} {B : va_E} : PAIR F B 141 274 [] := by
  intro σ hC hR
  have B5 := hC.1.2.2.2.2.1
  have h01 := hR.1
  obtain ⟨H1, H2, H3, H4⟩ := hC.2.2.2.1
  obtain ⟨a1, a2, a3, a4, a5, a6, a7, a8, a9, a10⟩ := id hR
  refine o141 ?_
  unfold w141
  refine ⟨⟨by omega, by omega⟩, ?_⟩
  by_cases hn : σ 128 6 = 0
  · rw [if_pos hn]
    intro τ et
    refine o274 ?_
    unfold w274
    intro υ eu
    rw [via et eu (b := 186) (j := 14) (by decide) (by decide), via et eu (b := 186) (j := 45) (by decide) (by decide)]
    refine ⟨by rcases h01 with z | z <;> (rw [z]; decide), ?_⟩
    by_cases ht : σ 186 14 = 0
    · rw [if_pos ht]
      intro ω ew
      exact ⟨rfl, pair_e hC hR (by decide) et eu ew⟩
    · rw [if_neg ht]
      refine ⟨⟨by omega, by omega⟩, ?_⟩
      rw [if_pos (by omega)]
      intro ω ew
      exact ⟨rfl, pair_e hC hR (by decide) et eu ew⟩
  · rw [if_neg hn]
    have hn' : σ 186 45 ≠ 0 := by omega
    have ht : σ 186 14 = 1 := h01.resolve_left (fun z => hn' (a9 z))
    obtain ⟨b1, b2, b3, b4, b5, b6⟩ := a10 ht
    obtain ⟨D1, D2, D3, D4, D5, D6, D7, D8⟩ := hC.2.1 ht
    obtain ⟨z1, z2, z3⟩ := b6 (σ 186 45 - 1) (by omega) (by omega)
    refine ⟨⟨H1, H2, by omega, by omega⟩, ?_⟩
    intro σ1 es1
    intro x1 ex1
    have hsx : hsl σ σ (σ 186 45 - 1) = x1 := by unfold hsl; rw [ex1]; omega
    obtain ⟨y1, y2, y3⟩ := H4 (σ 186 45 - 1) (by omega) (by omega)
    rw [hsx] at y1 y2 y3
    have n1 : ∀ b j, b ≠ 128 → σ1 b j = σ b j := fun b j z => by rw [es1, tkn_at, if_neg (fun w => z w.1), if_neg (fun w => z w.1)]
    have m5 : σ1 128 5 = (σ 128 5 + 7) % 8 := by rw [es1, tkn_at, if_neg (by decide), if_pos ⟨rfl, rfl⟩]
    have m6 : σ1 128 6 = max (σ 128 6 - 1) 0 := by rw [es1, tkn_at, if_pos ⟨rfl, rfl⟩]
    have x10 : 0 ≤ x1 ∧ x1 < 8 := by omega
    refine ⟨x10, ?_⟩
    intro x2 ex2
    rw [n1 129 x1 (by decide), y1] at ex2
    rw [n1 32 5 (by decide), B5]
    have hx2 : rg x2 := by
      rcases z1 with w | w
      · rw [ex2, w]; decide
      · exact ⟨by omega, by omega⟩
    refine ⟨⟨hx2, h01⟩, ?_⟩
    by_cases hr : σ 186 14 = 1 ∧ 0 ≤ x2 ∧ x2 < 8
    · rw [if_pos hr]
      have hne : σ 200 (σ 186 45 - 1) ≠ -1 := by omega
      have y3' := y3 hne
      obtain ⟨v1, v2, v3, v4, v5⟩ := z3 hne
      rw [if_pos (by omega)] at v3 v4 v5
      have eW : wt (σ 201 (σ 186 45 - 1)) (σ 202 (σ 186 45 - 1)) (σ 203 (σ 186 45 - 1)) = ordA σ := by unfold ordA; rw [v3, v4, v5]
      rw [eW] at y3'
      have nx1 : Int.toNat x1 < 8 := by omega
      have nx2 : Int.toNat x2 < 8 := by omega
      have hp1 : PR σ1 (134 + 3 * Int.toNat x1) (ordA σ) (fun k => σ 199 (4096 * (σ 186 45 - 1) + k)) := PR_congr y3' (n1 _ _ (by omega)) (fun i _ _ => n1 _ _ (by omega)) (fun i _ _ => n1 _ _ (by omega))
      refine ⟨⟨hr.2.1, hr.2.2, by omega, hp1.1, hp1.2.1⟩, ?_⟩
      intro σ2 es2 τ et
      obtain ⟨cp1, cp2⟩ := PR_cpP (o := 162 + 3 * Int.toNat x2) hp1
      rw [← es2] at cp1 cp2
      obtain ⟨q1, q2, q3, q4, q5⟩ := trb_c σ2 0
      rw [← et] at q1 q2 q3 q4 q5
      have kt : ∀ b j, 186 ≤ b → τ b j = σ b j := fun b j z => by
        rw [q5 b j (by omega), cp2 b j (by omega) (by omega) (by omega)]; exact n1 b j (by omega)
      refine r274 hR ht hn' kt (fun ω hA hlo => ⟨rfl, CI_lo (CI_und hC hR ht hn' hA (fun b j w1 w2 w3 w4 w5 => ?_) (fun j w1 w2 => ?_) q3 q4 ?_ ?_ ?_ ?_ (fun u u0 u1 => ?_) (fun r r0 r1 => ?_) ?_ ?_) hlo, RWF_und hR ht hn' hA⟩)
      · rw [q5 b j w1, cp2 b j (by omega) (by omega) (by omega)]; exact n1 b j w4
      · rw [et, trb_at, if_neg (by omega), if_neg (by omega), cp2 32 j (by omega) (by omega) (by omega)]; exact n1 32 j (by decide)
      · obtain ⟨L1, L45, L6, L7, L8, -⟩ := hA
        rw [q5 36 0 (by decide), cp2 36 0 (by omega) (by omega) (by omega), n1 36 0 (by decide), L6, v3]; exact D3
      · obtain ⟨L1, L45, L6, L7, L8, -⟩ := hA
        rw [q5 36 1 (by decide), cp2 36 1 (by omega) (by omega) (by omega), n1 36 1 (by decide), L7, v4]; exact D4
      · obtain ⟨L1, L45, L6, L7, L8, -⟩ := hA
        rw [q5 36 2 (by decide), cp2 36 2 (by omega) (by omega) (by omega), n1 36 2 (by decide), L8, v5]; exact D5
      · obtain ⟨L1, L45, L6, L7, L8, -⟩ := hA
        rw [q5 36 3 (by decide), cp2 36 3 (by omega) (by omega) (by omega), n1 36 3 (by decide), L7, L8, v4, v5]; exact D6
      · obtain ⟨L1, L45, L6, L7, L8, -⟩ := hA
        have eo : ordA ω = ordA σ := by rw [← eW]; unfold ordA; rw [L6, L7, L8]
        rw [q5 37 u (by decide), cp2 37 u (by omega) (by omega) (by omega), n1 37 u (by decide), eo]; exact D7 u u0 u1
      · obtain ⟨L1, L45, L6, L7, L8, -, -, -, Lr⟩ := hA
        have eo : ordA ω = ordA σ := by rw [← eW]; unfold ordA; rw [L6, L7, L8]
        have r8 : Int.toNat r < 8 := by omega
        rw [eo]
        by_cases hq : r = x2
        · rw [hq]
          refine PR_ext (f := fun k => σ 199 (4096 * (σ 186 45 - 1) + k)) (PR_congr cp1 (q5 _ _ (by omega)) (fun i _ _ => q5 _ _ (by omega)) (fun i _ _ => q5 _ _ (by omega))) (fun j j0 j1 => ?_)
          show ω 187 (4096 * x2 + j) = _
          rw [Lr x2 j hr.2.1 hr.2.2 j0 j1, if_pos ex2]
        · have hne2 : Int.toNat r ≠ Int.toNat x2 := by omega
          refine PR_ext (f := regR σ r) (PR_congr (D8 r r0 r1) ?_ (fun i _ _ => ?_) (fun i _ _ => ?_)) (fun j j0 j1 => ?_)
          · rw [q5 _ _ (by omega), cp2 _ _ (by omega) (by omega) (by omega)]; exact n1 _ _ (by omega)
          · rw [q5 _ _ (by omega), cp2 _ _ (by omega) (by omega) (by omega)]; exact n1 _ _ (by omega)
          · rw [q5 _ _ (by omega), cp2 _ _ (by omega) (by omega) (by omega)]; exact n1 _ _ (by omega)
          · show ω 187 (4096 * r + j) = σ 187 (4096 * r + j)
            rw [Lr r j r0 r1 j0 j1, if_neg (by omega)]
      · rw [q5 128 5 (by decide), cp2 128 5 (by omega) (by omega) (by omega)]; exact m5
      · rw [q5 128 6 (by decide), cp2 128 6 (by omega) (by omega) (by omega)]; exact m6
    · rw [if_neg hr]
      have he : σ 200 (σ 186 45 - 1) = -1 := by
        rcases z1 with w | w
        · exact w
        · exact absurd ⟨ht, by omega, by omega⟩ hr
      obtain ⟨u1, u2, u3⟩ := y2 he
      rw [n1 130 x1 (by decide), n1 131 x1 (by decide), n1 132 x1 (by decide), u1, u2, u3]
      refine c165 (W := ordA σ) (G := regR σ) z2 (wt_ok _ _ _) (fun r r0 r1 => PR_congr (D8 r r0 r1) (n1 _ _ (by omega)) (fun i _ _ => n1 _ _ (by omega)) (fun i _ _ => n1 _ _ (by omega))) ?_
      intro σ2 k1 k2 k3 k4 k5 k6 k7 τ et
      obtain ⟨q1, q2, q3, q4, q5⟩ := trb_c σ2 0
      rw [← et] at q1 q2 q3 q4 q5
      have kt : ∀ b j, 186 ≤ b → τ b j = σ b j := fun b j z => by
        rw [q5 b j (by omega), k1 b j (by omega) (by omega) (by omega)]; exact n1 b j (by omega)
      refine r274 hR ht hn' kt (fun ω hA hlo => ⟨rfl, CI_lo (CI_und hC hR ht hn' hA (fun b j w1 w2 w3 w4 w5 => ?_) (fun j w1 w2 => ?_) q3 q4 ?_ ?_ ?_ ?_ (fun u u0 u1' => ?_) (fun r r0 r1 => ?_) ?_ ?_) hlo, RWF_und hR ht hn' hA⟩)
      · rw [q5 b j w1, k1 b j w2 w3 w5]; exact n1 b j w4
      · rw [et, trb_at, if_neg (by omega), if_neg (by omega), k1 32 j (by decide) (by decide) (by decide)]; exact n1 32 j (by decide)
      · rw [q5 36 0 (by decide), hA.2.2.1]; exact k2
      · rw [q5 36 1 (by decide), hA.2.2.2.1]; exact k3
      · rw [q5 36 2 (by decide), hA.2.2.2.2.1]; exact k4
      · rw [q5 36 3 (by decide), hA.2.2.2.1, hA.2.2.2.2.1]; exact k5
      · have eo : ordA ω = wt (σ 201 (σ 186 45 - 1)) (σ 202 (σ 186 45 - 1)) (σ 203 (σ 186 45 - 1)) := by unfold ordA; rw [hA.2.2.1, hA.2.2.2.1, hA.2.2.2.2.1]
        rw [q5 37 u (by decide), eo]; exact k6 u u0 u1'
      · have eo : ordA ω = wt (σ 201 (σ 186 45 - 1)) (σ 202 (σ 186 45 - 1)) (σ 203 (σ 186 45 - 1)) := by unfold ordA; rw [hA.2.2.1, hA.2.2.2.1, hA.2.2.2.2.1]
        rw [eo]
        refine PR_ext (f := regR σ r) (PR_congr (k7 r r0 r1) (q5 _ _ (by omega)) (fun i _ _ => q5 _ _ (by omega)) (fun i _ _ => q5 _ _ (by omega))) (fun j j0 j1 => ?_)
        show ω 187 (4096 * r + j) = σ 187 (4096 * r + j)
        rw [hA.2.2.2.2.2.2.2.2 r j r0 r1 j0 j1, if_neg (by omega)]
      · rw [q5 128 5 (by decide), k1 128 5 (by decide) (by decide) (by decide)]; exact m5
      · rw [q5 128 6 (by decide), k1 128 6 (by decide) (by decide) (by decide)]; exact m6
